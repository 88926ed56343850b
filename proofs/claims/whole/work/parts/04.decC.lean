theorem dX10_init_0 : decode cX10_init 0 = .ok (.aload_n 0, 1) := by decide +kernel
theorem dX10_init_1 : decode cX10_init 1 = .ok (.invokespecial 3, 3) := by decide +kernel
theorem dX10_init_4 : decode cX10_init 4 = .ok (.aload_n 0, 1) := by decide +kernel
theorem dX10_init_5 : decode cX10_init 5 = .ok (.new 9, 3) := by decide +kernel
theorem dX10_init_8 : decode cX10_init 8 = .ok (.dup, 1) := by decide +kernel
theorem dX10_init_9 : decode cX10_init 9 = .ok (.invokespecial 11, 3) := by decide +kernel
theorem dX10_init_12 : decode cX10_init 12 = .ok (.putfield 12, 3) := by decide +kernel
theorem dX10_init_15 : decode cX10_init 15 = .ok (.aload_n 0, 1) := by decide +kernel
theorem dX10_init_16 : decode cX10_init 16 = .ok (.new 18, 3) := by decide +kernel
theorem dX10_init_19 : decode cX10_init 19 = .ok (.dup, 1) := by decide +kernel
theorem dX10_init_20 : decode cX10_init 20 = .ok (.invokespecial 20, 3) := by decide +kernel
theorem dX10_init_23 : decode cX10_init 23 = .ok (.putfield 21, 3) := by decide +kernel
theorem dX10_init_26 : decode cX10_init 26 = .ok (.aload_n 0, 1) := by decide +kernel
theorem dX10_init_27 : decode cX10_init 27 = .ok (.new 25, 3) := by decide +kernel
theorem dX10_init_30 : decode cX10_init 30 = .ok (.dup, 1) := by decide +kernel
theorem dX10_init_31 : decode cX10_init 31 = .ok (.aload_n 0, 1) := by decide +kernel
theorem dX10_init_32 : decode cX10_init 32 = .ok (.getfield 21, 3) := by decide +kernel
theorem dX10_init_35 : decode cX10_init 35 = .ok (.invokespecial 27, 3) := by decide +kernel
theorem dX10_init_38 : decode cX10_init 38 = .ok (.putfield 30, 3) := by decide +kernel
theorem dX10_init_41 : decode cX10_init 41 = .ok (.aload_n 0, 1) := by decide +kernel
theorem dX10_init_42 : decode cX10_init 42 = .ok (.new 25, 3) := by decide +kernel
theorem dX10_init_45 : decode cX10_init 45 = .ok (.dup, 1) := by decide +kernel
theorem dX10_init_46 : decode cX10_init 46 = .ok (.aload_n 0, 1) := by decide +kernel
theorem dX10_init_47 : decode cX10_init 47 = .ok (.getfield 21, 3) := by decide +kernel
theorem dX10_init_50 : decode cX10_init 50 = .ok (.invokespecial 27, 3) := by decide +kernel
theorem dX10_init_53 : decode cX10_init 53 = .ok (.putfield 34, 3) := by decide +kernel
theorem dX10_init_56 : decode cX10_init 56 = .ok (.aload_n 0, 1) := by decide +kernel
theorem dX10_init_57 : decode cX10_init 57 = .ok (.new 25, 3) := by decide +kernel
theorem dX10_init_60 : decode cX10_init 60 = .ok (.dup, 1) := by decide +kernel
theorem dX10_init_61 : decode cX10_init 61 = .ok (.aload_n 0, 1) := by decide +kernel
theorem dX10_init_62 : decode cX10_init 62 = .ok (.getfield 21, 3) := by decide +kernel
theorem dX10_init_65 : decode cX10_init 65 = .ok (.invokespecial 27, 3) := by decide +kernel
theorem dX10_init_68 : decode cX10_init 68 = .ok (.putfield 37, 3) := by decide +kernel
theorem dX10_init_71 : decode cX10_init 71 = .ok (.aload_n 0, 1) := by decide +kernel
theorem dX10_init_72 : decode cX10_init 72 = .ok (.new 40, 3) := by decide +kernel
theorem dX10_init_75 : decode cX10_init 75 = .ok (.dup, 1) := by decide +kernel
theorem dX10_init_76 : decode cX10_init 76 = .ok (.invokespecial 42, 3) := by decide +kernel
theorem dX10_init_79 : decode cX10_init 79 = .ok (.putfield 43, 3) := by decide +kernel
theorem dX10_init_82 : decode cX10_init 82 = .ok (.aload_n 0, 1) := by decide +kernel
theorem dX10_init_83 : decode cX10_init 83 = .ok (.new 47, 3) := by decide +kernel
theorem dX10_init_86 : decode cX10_init 86 = .ok (.dup, 1) := by decide +kernel
theorem dX10_init_87 : decode cX10_init 87 = .ok (.invokespecial 49, 3) := by decide +kernel
theorem dX10_init_90 : decode cX10_init 90 = .ok (.putfield 50, 3) := by decide +kernel
theorem dX10_init_93 : decode cX10_init 93 = .ok (.aload_n 0, 1) := by decide +kernel
theorem dX10_init_94 : decode cX10_init 94 = .ok (.new 54, 3) := by decide +kernel
theorem dX10_init_97 : decode cX10_init 97 = .ok (.dup, 1) := by decide +kernel
theorem dX10_init_98 : decode cX10_init 98 = .ok (.invokespecial 56, 3) := by decide +kernel
theorem dX10_init_101 : decode cX10_init 101 = .ok (.putfield 57, 3) := by decide +kernel
theorem dX10_init_104 : decode cX10_init 104 = .ok (.aload_n 0, 1) := by decide +kernel
theorem dX10_init_105 : decode cX10_init 105 = .ok (.new 61, 3) := by decide +kernel
theorem dX10_init_108 : decode cX10_init 108 = .ok (.dup, 1) := by decide +kernel
theorem dX10_init_109 : decode cX10_init 109 = .ok (.invokespecial 63, 3) := by decide +kernel
theorem dX10_init_112 : decode cX10_init 112 = .ok (.putfield 64, 3) := by decide +kernel
theorem dX10_init_115 : decode cX10_init 115 = .ok (.aload_n 0, 1) := by decide +kernel
theorem dX10_init_116 : decode cX10_init 116 = .ok (.sipush 600, 3) := by decide +kernel
theorem dX10_init_119 : decode cX10_init 119 = .ok (.newarray .int, 2) := by decide +kernel
theorem dX10_init_121 : decode cX10_init 121 = .ok (.putfield 68, 3) := by decide +kernel
theorem dX10_init_124 : decode cX10_init 124 = .ok (.aload_n 0, 1) := by decide +kernel
theorem dX10_init_125 : decode cX10_init 125 = .ok (.iconst (-1), 1) := by decide +kernel
theorem dX10_init_126 : decode cX10_init 126 = .ok (.putfield 72, 3) := by decide +kernel
theorem dX10_init_129 : decode cX10_init 129 = .ok (.return_, 1) := by decide +kernel
theorem dX10_feed_0 : decode cX10_feed 0 = .ok (.aload_n 0, 1) := by decide +kernel
theorem dX10_feed_1 : decode cX10_feed 1 = .ok (.getfield 12, 3) := by decide +kernel
theorem dX10_feed_4 : decode cX10_feed 4 = .ok (.getfield 76, 3) := by decide +kernel
theorem dX10_feed_7 : decode cX10_feed 7 = .ok (.astore 6, 2) := by decide +kernel
theorem dX10_feed_9 : decode cX10_feed 9 = .ok (.aload 6, 2) := by decide +kernel
theorem dX10_feed_11 : decode cX10_feed 11 = .ok (.invokevirtual 80, 3) := by decide +kernel
theorem dX10_feed_14 : decode cX10_feed 14 = .ok (.ifCond .ne 5, 3) := by decide +kernel
theorem dX10_feed_17 : decode cX10_feed 17 = .ok (.iconst (-1), 1) := by decide +kernel
theorem dX10_feed_18 : decode cX10_feed 18 = .ok (.ireturn, 1) := by decide +kernel
theorem dX10_feed_19 : decode cX10_feed 19 = .ok (.aload 6, 2) := by decide +kernel
theorem dX10_feed_21 : decode cX10_feed 21 = .ok (.iload_n 1, 1) := by decide +kernel
theorem dX10_feed_22 : decode cX10_feed 22 = .ok (.invokevirtual 86, 3) := by decide +kernel
theorem dX10_feed_25 : decode cX10_feed 25 = .ok (.aload 6, 2) := by decide +kernel
theorem dX10_feed_27 : decode cX10_feed 27 = .ok (.iload_n 2, 1) := by decide +kernel
theorem dX10_feed_28 : decode cX10_feed 28 = .ok (.invokevirtual 86, 3) := by decide +kernel
theorem dX10_feed_31 : decode cX10_feed 31 = .ok (.aload 6, 2) := by decide +kernel
theorem dX10_feed_33 : decode cX10_feed 33 = .ok (.iload_n 3, 1) := by decide +kernel
theorem dX10_feed_34 : decode cX10_feed 34 = .ok (.invokevirtual 86, 3) := by decide +kernel
theorem dX10_feed_37 : decode cX10_feed 37 = .ok (.aload 6, 2) := by decide +kernel
theorem dX10_feed_39 : decode cX10_feed 39 = .ok (.iload 4, 2) := by decide +kernel
theorem dX10_feed_41 : decode cX10_feed 41 = .ok (.invokevirtual 86, 3) := by decide +kernel
theorem dX10_feed_44 : decode cX10_feed 44 = .ok (.aload 6, 2) := by decide +kernel
theorem dX10_feed_46 : decode cX10_feed 46 = .ok (.iload 5, 2) := by decide +kernel
theorem dX10_feed_48 : decode cX10_feed 48 = .ok (.invokevirtual 86, 3) := by decide +kernel
theorem dX10_feed_51 : decode cX10_feed 51 = .ok (.aload 6, 2) := by decide +kernel
theorem dX10_feed_53 : decode cX10_feed 53 = .ok (.getfield 90, 3) := by decide +kernel
theorem dX10_feed_56 : decode cX10_feed 56 = .ok (.ireturn, 1) := by decide +kernel
theorem dX10_text_0 : decode cX10_text 0 = .ok (.iload_n 1, 1) := by decide +kernel
theorem dX10_text_1 : decode cX10_text 1 = .ok (.ifCond .lt 17, 3) := by decide +kernel
theorem dX10_text_4 : decode cX10_text 4 = .ok (.iload_n 1, 1) := by decide +kernel
theorem dX10_text_5 : decode cX10_text 5 = .ok (.aload_n 0, 1) := by decide +kernel
theorem dX10_text_6 : decode cX10_text 6 = .ok (.getfield 12, 3) := by decide +kernel
theorem dX10_text_9 : decode cX10_text 9 = .ok (.getfield 76, 3) := by decide +kernel
theorem dX10_text_12 : decode cX10_text 12 = .ok (.getfield 90, 3) := by decide +kernel
theorem dX10_text_15 : decode cX10_text 15 = .ok (.if_icmp .le 6, 3) := by decide +kernel
theorem dX10_text_18 : decode cX10_text 18 = .ok (.bipush (-2), 2) := by decide +kernel
theorem dX10_text_20 : decode cX10_text 20 = .ok (.ireturn, 1) := by decide +kernel
theorem dX10_text_21 : decode cX10_text 21 = .ok (.aload_n 0, 1) := by decide +kernel
theorem dX10_text_22 : decode cX10_text 22 = .ok (.getfield 12, 3) := by decide +kernel
theorem dX10_text_25 : decode cX10_text 25 = .ok (.iload_n 1, 1) := by decide +kernel
theorem dX10_text_26 : decode cX10_text 26 = .ok (.invokevirtual 93, 3) := by decide +kernel
theorem dX10_text_29 : decode cX10_text 29 = .ok (.aload_n 0, 1) := by decide +kernel
theorem dX10_text_30 : decode cX10_text 30 = .ok (.aload_n 0, 1) := by decide +kernel
theorem dX10_text_31 : decode cX10_text 31 = .ok (.getfield 12, 3) := by decide +kernel
theorem dX10_text_34 : decode cX10_text 34 = .ok (.getfield 96, 3) := by decide +kernel
theorem dX10_text_37 : decode cX10_text 37 = .ok (.putfield 99, 3) := by decide +kernel
theorem dX10_text_40 : decode cX10_text 40 = .ok (.aload_n 0, 1) := by decide +kernel
theorem dX10_text_41 : decode cX10_text 41 = .ok (.aload_n 0, 1) := by decide +kernel
theorem dX10_text_42 : decode cX10_text 42 = .ok (.getfield 12, 3) := by decide +kernel
theorem dX10_text_45 : decode cX10_text 45 = .ok (.getfield 102, 3) := by decide +kernel
theorem dX10_text_48 : decode cX10_text 48 = .ok (.putfield 72, 3) := by decide +kernel
theorem dX10_text_51 : decode cX10_text 51 = .ok (.aload_n 0, 1) := by decide +kernel
theorem dX10_text_52 : decode cX10_text 52 = .ok (.getfield 99, 3) := by decide +kernel
theorem dX10_text_55 : decode cX10_text 55 = .ok (.ifCond .eq 5, 3) := by decide +kernel
theorem dX10_text_58 : decode cX10_text 58 = .ok (.iconst (-1), 1) := by decide +kernel
theorem dX10_text_59 : decode cX10_text 59 = .ok (.ireturn, 1) := by decide +kernel
theorem dX10_text_60 : decode cX10_text 60 = .ok (.aload_n 0, 1) := by decide +kernel
theorem dX10_text_61 : decode cX10_text 61 = .ok (.getfield 12, 3) := by decide +kernel
theorem dX10_text_64 : decode cX10_text 64 = .ok (.getfield 105, 3) := by decide +kernel
theorem dX10_text_67 : decode cX10_text 67 = .ok (.astore_n 2, 1) := by decide +kernel
theorem dX10_text_68 : decode cX10_text 68 = .ok (.aload_n 0, 1) := by decide +kernel
theorem dX10_text_69 : decode cX10_text 69 = .ok (.getfield 12, 3) := by decide +kernel
theorem dX10_text_72 : decode cX10_text 72 = .ok (.aload_n 0, 1) := by decide +kernel
theorem dX10_text_73 : decode cX10_text 73 = .ok (.getfield 21, 3) := by decide +kernel
theorem dX10_text_76 : decode cX10_text 76 = .ok (.putfield 105, 3) := by decide +kernel
theorem dX10_text_79 : decode cX10_text 79 = .ok (.aload_n 0, 1) := by decide +kernel
theorem dX10_text_80 : decode cX10_text 80 = .ok (.aload_n 2, 1) := by decide +kernel
theorem dX10_text_81 : decode cX10_text 81 = .ok (.putfield 21, 3) := by decide +kernel
theorem dX10_text_84 : decode cX10_text 84 = .ok (.aload_n 0, 1) := by decide +kernel
theorem dX10_text_85 : decode cX10_text 85 = .ok (.getfield 30, 3) := by decide +kernel
theorem dX10_text_88 : decode cX10_text 88 = .ok (.aload_n 0, 1) := by decide +kernel
theorem dX10_text_89 : decode cX10_text 89 = .ok (.getfield 21, 3) := by decide +kernel
theorem dX10_text_92 : decode cX10_text 92 = .ok (.invokevirtual 106, 3) := by decide +kernel
theorem dX10_text_95 : decode cX10_text 95 = .ok (.aload_n 0, 1) := by decide +kernel
theorem dX10_text_96 : decode cX10_text 96 = .ok (.iconst 0, 1) := by decide +kernel
theorem dX10_text_97 : decode cX10_text 97 = .ok (.putfield 109, 3) := by decide +kernel
theorem dX10_text_100 : decode cX10_text 100 = .ok (.aload_n 0, 1) := by decide +kernel
theorem dX10_text_101 : decode cX10_text 101 = .ok (.getfield 57, 3) := by decide +kernel
theorem dX10_text_104 : decode cX10_text 104 = .ok (.invokevirtual 113, 3) := by decide +kernel
theorem dX10_text_107 : decode cX10_text 107 = .ok (.aload_n 0, 1) := by decide +kernel
theorem dX10_text_108 : decode cX10_text 108 = .ok (.getfield 64, 3) := by decide +kernel
theorem dX10_text_111 : decode cX10_text 111 = .ok (.invokevirtual 116, 3) := by decide +kernel
theorem dX10_text_114 : decode cX10_text 114 = .ok (.aload_n 0, 1) := by decide +kernel
theorem dX10_text_115 : decode cX10_text 115 = .ok (.getfield 12, 3) := by decide +kernel
theorem dX10_text_118 : decode cX10_text 118 = .ok (.getfield 117, 3) := by decide +kernel
theorem dX10_text_121 : decode cX10_text 121 = .ok (.ireturn, 1) := by decide +kernel
theorem dX10_fault_0 : decode cX10_fault 0 = .ok (.iload_n 1, 1) := by decide +kernel
theorem dX10_fault_1 : decode cX10_fault 1 = .ok (.lookupswitch 37 #[(0, 27), (1, 32)], 27) := by decide +kernel
theorem dX10_fault_28 : decode cX10_fault 28 = .ok (.aload_n 0, 1) := by decide +kernel
theorem dX10_fault_29 : decode cX10_fault 29 = .ok (.getfield 99, 3) := by decide +kernel
theorem dX10_fault_32 : decode cX10_fault 32 = .ok (.ireturn, 1) := by decide +kernel
theorem dX10_fault_33 : decode cX10_fault 33 = .ok (.aload_n 0, 1) := by decide +kernel
theorem dX10_fault_34 : decode cX10_fault 34 = .ok (.getfield 72, 3) := by decide +kernel
theorem dX10_fault_37 : decode cX10_fault 37 = .ok (.ireturn, 1) := by decide +kernel
theorem dX10_fault_38 : decode cX10_fault 38 = .ok (.iconst (-1), 1) := by decide +kernel
theorem dX10_fault_39 : decode cX10_fault 39 = .ok (.ireturn, 1) := by decide +kernel
theorem dX10_named_0 : decode cX10_named 0 = .ok (.aload_n 0, 1) := by decide +kernel
theorem dX10_named_1 : decode cX10_named 1 = .ok (.getfield 21, 3) := by decide +kernel
theorem dX10_named_4 : decode cX10_named 4 = .ok (.iload_n 1, 1) := by decide +kernel
theorem dX10_named_5 : decode cX10_named 5 = .ok (.invokevirtual 120, 3) := by decide +kernel
theorem dX10_named_8 : decode cX10_named 8 = .ok (.ireturn, 1) := by decide +kernel
theorem dX10_pond_0 : decode cX10_pond 0 = .ok (.aload_n 0, 1) := by decide +kernel
theorem dX10_pond_1 : decode cX10_pond 1 = .ok (.iload_n 1, 1) := by decide +kernel
theorem dX10_pond_2 : decode cX10_pond 2 = .ok (.invokevirtual 124, 3) := by decide +kernel
theorem dX10_pond_5 : decode cX10_pond 5 = .ok (.ifCond .ne 13, 3) := by decide +kernel
theorem dX10_pond_8 : decode cX10_pond 8 = .ok (.new 128, 3) := by decide +kernel
theorem dX10_pond_11 : decode cX10_pond 11 = .ok (.dup, 1) := by decide +kernel
theorem dX10_pond_12 : decode cX10_pond 12 = .ok (.ldc 130, 2) := by decide +kernel
theorem dX10_pond_14 : decode cX10_pond 14 = .ok (.invokespecial 132, 3) := by decide +kernel
theorem dX10_pond_17 : decode cX10_pond 17 = .ok (.athrow, 1) := by decide +kernel
theorem dX10_pond_18 : decode cX10_pond 18 = .ok (.iload_n 2, 1) := by decide +kernel
theorem dX10_pond_19 : decode cX10_pond 19 = .ok (.tableswitch 88 0 4 #[33, 43, 53, 63, 73], 33) := by decide +kernel
theorem dX10_pond_52 : decode cX10_pond 52 = .ok (.aload_n 0, 1) := by decide +kernel
theorem dX10_pond_53 : decode cX10_pond 53 = .ok (.getfield 21, 3) := by decide +kernel
theorem dX10_pond_56 : decode cX10_pond 56 = .ok (.getfield 135, 3) := by decide +kernel
theorem dX10_pond_59 : decode cX10_pond 59 = .ok (.iload_n 1, 1) := by decide +kernel
theorem dX10_pond_60 : decode cX10_pond 60 = .ok (.iaload, 1) := by decide +kernel
theorem dX10_pond_61 : decode cX10_pond 61 = .ok (.ireturn, 1) := by decide +kernel
theorem dX10_pond_62 : decode cX10_pond 62 = .ok (.aload_n 0, 1) := by decide +kernel
theorem dX10_pond_63 : decode cX10_pond 63 = .ok (.getfield 21, 3) := by decide +kernel
theorem dX10_pond_66 : decode cX10_pond 66 = .ok (.getfield 138, 3) := by decide +kernel
theorem dX10_pond_69 : decode cX10_pond 69 = .ok (.iload_n 1, 1) := by decide +kernel
theorem dX10_pond_70 : decode cX10_pond 70 = .ok (.iaload, 1) := by decide +kernel
theorem dX10_pond_71 : decode cX10_pond 71 = .ok (.ireturn, 1) := by decide +kernel
theorem dX10_pond_72 : decode cX10_pond 72 = .ok (.aload_n 0, 1) := by decide +kernel
theorem dX10_pond_73 : decode cX10_pond 73 = .ok (.getfield 30, 3) := by decide +kernel
theorem dX10_pond_76 : decode cX10_pond 76 = .ok (.getfield 141, 3) := by decide +kernel
theorem dX10_pond_79 : decode cX10_pond 79 = .ok (.iload_n 1, 1) := by decide +kernel
theorem dX10_pond_80 : decode cX10_pond 80 = .ok (.iaload, 1) := by decide +kernel
theorem dX10_pond_81 : decode cX10_pond 81 = .ok (.ireturn, 1) := by decide +kernel
theorem dX10_pond_82 : decode cX10_pond 82 = .ok (.aload_n 0, 1) := by decide +kernel
theorem dX10_pond_83 : decode cX10_pond 83 = .ok (.getfield 21, 3) := by decide +kernel
theorem dX10_pond_86 : decode cX10_pond 86 = .ok (.getfield 144, 3) := by decide +kernel
theorem dX10_pond_89 : decode cX10_pond 89 = .ok (.iload_n 1, 1) := by decide +kernel
theorem dX10_pond_90 : decode cX10_pond 90 = .ok (.iaload, 1) := by decide +kernel
theorem dX10_pond_91 : decode cX10_pond 91 = .ok (.ireturn, 1) := by decide +kernel
theorem dX10_pond_92 : decode cX10_pond 92 = .ok (.aload_n 0, 1) := by decide +kernel
theorem dX10_pond_93 : decode cX10_pond 93 = .ok (.getfield 21, 3) := by decide +kernel
theorem dX10_pond_96 : decode cX10_pond 96 = .ok (.getfield 147, 3) := by decide +kernel
theorem dX10_pond_99 : decode cX10_pond 99 = .ok (.iload_n 1, 1) := by decide +kernel
theorem dX10_pond_100 : decode cX10_pond 100 = .ok (.invokevirtual 151, 3) := by decide +kernel
theorem dX10_pond_103 : decode cX10_pond 103 = .ok (.invokestatic 156, 3) := by decide +kernel
theorem dX10_pond_106 : decode cX10_pond 106 = .ok (.ireturn, 1) := by decide +kernel
theorem dX10_pond_107 : decode cX10_pond 107 = .ok (.new 159, 3) := by decide +kernel
theorem dX10_pond_110 : decode cX10_pond 110 = .ok (.dup, 1) := by decide +kernel
theorem dX10_pond_111 : decode cX10_pond 111 = .ok (.ldc 161, 2) := by decide +kernel
theorem dX10_pond_113 : decode cX10_pond 113 = .ok (.invokespecial 163, 3) := by decide +kernel
theorem dX10_pond_116 : decode cX10_pond 116 = .ok (.athrow, 1) := by decide +kernel
theorem dX10_level_0 : decode cX10_level 0 = .ok (.aload_n 0, 1) := by decide +kernel
theorem dX10_level_1 : decode cX10_level 1 = .ok (.iload_n 1, 1) := by decide +kernel
theorem dX10_level_2 : decode cX10_level 2 = .ok (.invokevirtual 124, 3) := by decide +kernel
theorem dX10_level_5 : decode cX10_level 5 = .ok (.ifCond .eq 10, 3) := by decide +kernel
theorem dX10_level_8 : decode cX10_level 8 = .ok (.iload_n 2, 1) := by decide +kernel
theorem dX10_level_9 : decode cX10_level 9 = .ok (.invokestatic 164, 3) := by decide +kernel
theorem dX10_level_12 : decode cX10_level 12 = .ok (.ifCond .ne 5, 3) := by decide +kernel
theorem dX10_level_15 : decode cX10_level 15 = .ok (.iconst (-1), 1) := by decide +kernel
theorem dX10_level_16 : decode cX10_level 16 = .ok (.ireturn, 1) := by decide +kernel
theorem dX10_level_17 : decode cX10_level 17 = .ok (.aload_n 0, 1) := by decide +kernel
theorem dX10_level_18 : decode cX10_level 18 = .ok (.getfield 30, 3) := by decide +kernel
theorem dX10_level_21 : decode cX10_level 21 = .ok (.iload_n 1, 1) := by decide +kernel
theorem dX10_level_22 : decode cX10_level 22 = .ok (.invokevirtual 167, 3) := by decide +kernel
theorem dX10_level_25 : decode cX10_level 25 = .ok (.i2l, 1) := by decide +kernel
theorem dX10_level_26 : decode cX10_level 26 = .ok (.aload_n 0, 1) := by decide +kernel
theorem dX10_level_27 : decode cX10_level 27 = .ok (.getfield 21, 3) := by decide +kernel
theorem dX10_level_30 : decode cX10_level 30 = .ok (.getfield 135, 3) := by decide +kernel
theorem dX10_level_33 : decode cX10_level 33 = .ok (.iload_n 1, 1) := by decide +kernel
theorem dX10_level_34 : decode cX10_level 34 = .ok (.iaload, 1) := by decide +kernel
theorem dX10_level_35 : decode cX10_level 35 = .ok (.i2l, 1) := by decide +kernel
theorem dX10_level_36 : decode cX10_level 36 = .ok (.iload_n 2, 1) := by decide +kernel
theorem dX10_level_37 : decode cX10_level 37 = .ok (.invokestatic 170, 3) := by decide +kernel
theorem dX10_level_40 : decode cX10_level 40 = .ok (.l2i, 1) := by decide +kernel
theorem dX10_level_41 : decode cX10_level 41 = .ok (.ireturn, 1) := by decide +kernel
theorem dX10_pipe_0 : decode cX10_pipe 0 = .ok (.aload_n 0, 1) := by decide +kernel
theorem dX10_pipe_1 : decode cX10_pipe 1 = .ok (.iload_n 1, 1) := by decide +kernel
theorem dX10_pipe_2 : decode cX10_pipe 2 = .ok (.invokevirtual 174, 3) := by decide +kernel
theorem dX10_pipe_5 : decode cX10_pipe 5 = .ok (.ifCond .ne 5, 3) := by decide +kernel
theorem dX10_pipe_8 : decode cX10_pipe 8 = .ok (.iconst (-1), 1) := by decide +kernel
theorem dX10_pipe_9 : decode cX10_pipe 9 = .ok (.ireturn, 1) := by decide +kernel
theorem dX10_pipe_10 : decode cX10_pipe 10 = .ok (.iload_n 2, 1) := by decide +kernel
theorem dX10_pipe_11 : decode cX10_pipe 11 = .ok (.tableswitch 98 0 4 #[33, 43, 53, 63, 86], 33) := by decide +kernel
theorem dX10_pipe_44 : decode cX10_pipe 44 = .ok (.aload_n 0, 1) := by decide +kernel
theorem dX10_pipe_45 : decode cX10_pipe 45 = .ok (.getfield 21, 3) := by decide +kernel
theorem dX10_pipe_48 : decode cX10_pipe 48 = .ok (.getfield 177, 3) := by decide +kernel
theorem dX10_pipe_51 : decode cX10_pipe 51 = .ok (.iload_n 1, 1) := by decide +kernel
theorem dX10_pipe_52 : decode cX10_pipe 52 = .ok (.iaload, 1) := by decide +kernel
theorem dX10_pipe_53 : decode cX10_pipe 53 = .ok (.ireturn, 1) := by decide +kernel
theorem dX10_pipe_54 : decode cX10_pipe 54 = .ok (.aload_n 0, 1) := by decide +kernel
theorem dX10_pipe_55 : decode cX10_pipe 55 = .ok (.getfield 21, 3) := by decide +kernel
theorem dX10_pipe_58 : decode cX10_pipe 58 = .ok (.getfield 180, 3) := by decide +kernel
theorem dX10_pipe_61 : decode cX10_pipe 61 = .ok (.iload_n 1, 1) := by decide +kernel
theorem dX10_pipe_62 : decode cX10_pipe 62 = .ok (.iaload, 1) := by decide +kernel
theorem dX10_pipe_63 : decode cX10_pipe 63 = .ok (.ireturn, 1) := by decide +kernel
theorem dX10_pipe_64 : decode cX10_pipe 64 = .ok (.aload_n 0, 1) := by decide +kernel
theorem dX10_pipe_65 : decode cX10_pipe 65 = .ok (.getfield 21, 3) := by decide +kernel
theorem dX10_pipe_68 : decode cX10_pipe 68 = .ok (.getfield 183, 3) := by decide +kernel
theorem dX10_pipe_71 : decode cX10_pipe 71 = .ok (.iload_n 1, 1) := by decide +kernel
theorem dX10_pipe_72 : decode cX10_pipe 72 = .ok (.iaload, 1) := by decide +kernel
theorem dX10_pipe_73 : decode cX10_pipe 73 = .ok (.ireturn, 1) := by decide +kernel
theorem dX10_pipe_74 : decode cX10_pipe 74 = .ok (.aload_n 0, 1) := by decide +kernel
theorem dX10_pipe_75 : decode cX10_pipe 75 = .ok (.getfield 43, 3) := by decide +kernel
theorem dX10_pipe_78 : decode cX10_pipe 78 = .ok (.invokevirtual 186, 3) := by decide +kernel
theorem dX10_pipe_81 : decode cX10_pipe 81 = .ok (.aload_n 0, 1) := by decide +kernel
theorem dX10_pipe_82 : decode cX10_pipe 82 = .ok (.getfield 43, 3) := by decide +kernel
theorem dX10_pipe_85 : decode cX10_pipe 85 = .ok (.aload_n 0, 1) := by decide +kernel
theorem dX10_pipe_86 : decode cX10_pipe 86 = .ok (.getfield 30, 3) := by decide +kernel
theorem dX10_pipe_89 : decode cX10_pipe 89 = .ok (.invokevirtual 189, 3) := by decide +kernel
theorem dX10_pipe_92 : decode cX10_pipe 92 = .ok (.iload_n 1, 1) := by decide +kernel
theorem dX10_pipe_93 : decode cX10_pipe 93 = .ok (.ishr, 1) := by decide +kernel
theorem dX10_pipe_94 : decode cX10_pipe 94 = .ok (.iconst 1, 1) := by decide +kernel
theorem dX10_pipe_95 : decode cX10_pipe 95 = .ok (.iand, 1) := by decide +kernel
theorem dX10_pipe_96 : decode cX10_pipe 96 = .ok (.ireturn, 1) := by decide +kernel
theorem dX10_pipe_97 : decode cX10_pipe 97 = .ok (.aload_n 0, 1) := by decide +kernel
theorem dX10_pipe_98 : decode cX10_pipe 98 = .ok (.getfield 30, 3) := by decide +kernel
theorem dX10_pipe_101 : decode cX10_pipe 101 = .ok (.getfield 193, 3) := by decide +kernel
theorem dX10_pipe_104 : decode cX10_pipe 104 = .ok (.iload_n 1, 1) := by decide +kernel
theorem dX10_pipe_105 : decode cX10_pipe 105 = .ok (.ishr, 1) := by decide +kernel
theorem dX10_pipe_106 : decode cX10_pipe 106 = .ok (.iconst 1, 1) := by decide +kernel
theorem dX10_pipe_107 : decode cX10_pipe 107 = .ok (.iand, 1) := by decide +kernel
theorem dX10_pipe_108 : decode cX10_pipe 108 = .ok (.ireturn, 1) := by decide +kernel
theorem dX10_pipe_109 : decode cX10_pipe 109 = .ok (.iconst (-1), 1) := by decide +kernel
theorem dX10_pipe_110 : decode cX10_pipe 110 = .ok (.ireturn, 1) := by decide +kernel
theorem dX10_lock_0 : decode cX10_lock 0 = .ok (.aload_n 0, 1) := by decide +kernel
theorem dX10_lock_1 : decode cX10_lock 1 = .ok (.iload_n 1, 1) := by decide +kernel
theorem dX10_lock_2 : decode cX10_lock 2 = .ok (.invokevirtual 196, 3) := by decide +kernel
theorem dX10_lock_5 : decode cX10_lock 5 = .ok (.ifCond .ne 5, 3) := by decide +kernel
theorem dX10_lock_8 : decode cX10_lock 8 = .ok (.iconst (-1), 1) := by decide +kernel
theorem dX10_lock_9 : decode cX10_lock 9 = .ok (.ireturn, 1) := by decide +kernel
theorem dX10_lock_10 : decode cX10_lock 10 = .ok (.iload_n 2, 1) := by decide +kernel
theorem dX10_lock_11 : decode cX10_lock 11 = .ok (.tableswitch 80 0 3 #[29, 42, 55, 68], 29) := by decide +kernel
theorem dX10_lock_40 : decode cX10_lock 40 = .ok (.aload_n 0, 1) := by decide +kernel
theorem dX10_lock_41 : decode cX10_lock 41 = .ok (.getfield 21, 3) := by decide +kernel
theorem dX10_lock_44 : decode cX10_lock 44 = .ok (.getfield 147, 3) := by decide +kernel
theorem dX10_lock_47 : decode cX10_lock 47 = .ok (.getfield 199, 3) := by decide +kernel
theorem dX10_lock_50 : decode cX10_lock 50 = .ok (.iload_n 1, 1) := by decide +kernel
theorem dX10_lock_51 : decode cX10_lock 51 = .ok (.iaload, 1) := by decide +kernel
theorem dX10_lock_52 : decode cX10_lock 52 = .ok (.ireturn, 1) := by decide +kernel
theorem dX10_lock_53 : decode cX10_lock 53 = .ok (.aload_n 0, 1) := by decide +kernel
theorem dX10_lock_54 : decode cX10_lock 54 = .ok (.getfield 21, 3) := by decide +kernel
theorem dX10_lock_57 : decode cX10_lock 57 = .ok (.getfield 147, 3) := by decide +kernel
theorem dX10_lock_60 : decode cX10_lock 60 = .ok (.getfield 202, 3) := by decide +kernel
theorem dX10_lock_63 : decode cX10_lock 63 = .ok (.iload_n 1, 1) := by decide +kernel
theorem dX10_lock_64 : decode cX10_lock 64 = .ok (.iaload, 1) := by decide +kernel
theorem dX10_lock_65 : decode cX10_lock 65 = .ok (.ireturn, 1) := by decide +kernel
theorem dX10_lock_66 : decode cX10_lock 66 = .ok (.aload_n 0, 1) := by decide +kernel
theorem dX10_lock_67 : decode cX10_lock 67 = .ok (.getfield 21, 3) := by decide +kernel
theorem dX10_lock_70 : decode cX10_lock 70 = .ok (.getfield 147, 3) := by decide +kernel
theorem dX10_lock_73 : decode cX10_lock 73 = .ok (.getfield 205, 3) := by decide +kernel
theorem dX10_lock_76 : decode cX10_lock 76 = .ok (.iload_n 1, 1) := by decide +kernel
theorem dX10_lock_77 : decode cX10_lock 77 = .ok (.iaload, 1) := by decide +kernel
theorem dX10_lock_78 : decode cX10_lock 78 = .ok (.ireturn, 1) := by decide +kernel
theorem dX10_lock_79 : decode cX10_lock 79 = .ok (.aload_n 0, 1) := by decide +kernel
theorem dX10_lock_80 : decode cX10_lock 80 = .ok (.getfield 30, 3) := by decide +kernel
theorem dX10_lock_83 : decode cX10_lock 83 = .ok (.iload_n 1, 1) := by decide +kernel
theorem dX10_lock_84 : decode cX10_lock 84 = .ok (.invokevirtual 208, 3) := by decide +kernel
theorem dX10_lock_87 : decode cX10_lock 87 = .ok (.invokestatic 156, 3) := by decide +kernel
theorem dX10_lock_90 : decode cX10_lock 90 = .ok (.ireturn, 1) := by decide +kernel
theorem dX10_lock_91 : decode cX10_lock 91 = .ok (.iconst (-1), 1) := by decide +kernel
theorem dX10_lock_92 : decode cX10_lock 92 = .ok (.ireturn, 1) := by decide +kernel
theorem dX10_boat_0 : decode cX10_boat 0 = .ok (.aload_n 0, 1) := by decide +kernel
theorem dX10_boat_1 : decode cX10_boat 1 = .ok (.iload_n 1, 1) := by decide +kernel
theorem dX10_boat_2 : decode cX10_boat 2 = .ok (.invokevirtual 211, 3) := by decide +kernel
theorem dX10_boat_5 : decode cX10_boat 5 = .ok (.ifCond .ne 5, 3) := by decide +kernel
theorem dX10_boat_8 : decode cX10_boat 8 = .ok (.iconst (-1), 1) := by decide +kernel
theorem dX10_boat_9 : decode cX10_boat 9 = .ok (.ireturn, 1) := by decide +kernel
theorem dX10_boat_10 : decode cX10_boat 10 = .ok (.iload_n 2, 1) := by decide +kernel
theorem dX10_boat_11 : decode cX10_boat 11 = .ok (.tableswitch 75 0 3 #[29, 42, 55, 65], 29) := by decide +kernel
theorem dX10_boat_40 : decode cX10_boat 40 = .ok (.aload_n 0, 1) := by decide +kernel
theorem dX10_boat_41 : decode cX10_boat 41 = .ok (.getfield 21, 3) := by decide +kernel
theorem dX10_boat_44 : decode cX10_boat 44 = .ok (.getfield 147, 3) := by decide +kernel
theorem dX10_boat_47 : decode cX10_boat 47 = .ok (.getfield 214, 3) := by decide +kernel
theorem dX10_boat_50 : decode cX10_boat 50 = .ok (.iload_n 1, 1) := by decide +kernel
theorem dX10_boat_51 : decode cX10_boat 51 = .ok (.iaload, 1) := by decide +kernel
theorem dX10_boat_52 : decode cX10_boat 52 = .ok (.ireturn, 1) := by decide +kernel
theorem dX10_boat_53 : decode cX10_boat 53 = .ok (.aload_n 0, 1) := by decide +kernel
theorem dX10_boat_54 : decode cX10_boat 54 = .ok (.getfield 21, 3) := by decide +kernel
theorem dX10_boat_57 : decode cX10_boat 57 = .ok (.getfield 147, 3) := by decide +kernel
theorem dX10_boat_60 : decode cX10_boat 60 = .ok (.getfield 217, 3) := by decide +kernel
theorem dX10_boat_63 : decode cX10_boat 63 = .ok (.iload_n 1, 1) := by decide +kernel
theorem dX10_boat_64 : decode cX10_boat 64 = .ok (.iaload, 1) := by decide +kernel
theorem dX10_boat_65 : decode cX10_boat 65 = .ok (.ireturn, 1) := by decide +kernel
theorem dX10_boat_66 : decode cX10_boat 66 = .ok (.aload_n 0, 1) := by decide +kernel
theorem dX10_boat_67 : decode cX10_boat 67 = .ok (.getfield 30, 3) := by decide +kernel
theorem dX10_boat_70 : decode cX10_boat 70 = .ok (.getfield 220, 3) := by decide +kernel
theorem dX10_boat_73 : decode cX10_boat 73 = .ok (.iload_n 1, 1) := by decide +kernel
theorem dX10_boat_74 : decode cX10_boat 74 = .ok (.iaload, 1) := by decide +kernel
theorem dX10_boat_75 : decode cX10_boat 75 = .ok (.ireturn, 1) := by decide +kernel
theorem dX10_boat_76 : decode cX10_boat 76 = .ok (.aload_n 0, 1) := by decide +kernel
theorem dX10_boat_77 : decode cX10_boat 77 = .ok (.getfield 30, 3) := by decide +kernel
theorem dX10_boat_80 : decode cX10_boat 80 = .ok (.getfield 223, 3) := by decide +kernel
theorem dX10_boat_83 : decode cX10_boat 83 = .ok (.iload_n 1, 1) := by decide +kernel
theorem dX10_boat_84 : decode cX10_boat 84 = .ok (.iaload, 1) := by decide +kernel
theorem dX10_boat_85 : decode cX10_boat 85 = .ok (.ireturn, 1) := by decide +kernel
theorem dX10_boat_86 : decode cX10_boat 86 = .ok (.iconst (-1), 1) := by decide +kernel
theorem dX10_boat_87 : decode cX10_boat 87 = .ok (.ireturn, 1) := by decide +kernel
theorem dX10_law_0 : decode cX10_law 0 = .ok (.aload_n 0, 1) := by decide +kernel
theorem dX10_law_1 : decode cX10_law 1 = .ok (.getfield 43, 3) := by decide +kernel
theorem dX10_law_4 : decode cX10_law 4 = .ok (.invokevirtual 186, 3) := by decide +kernel
theorem dX10_law_7 : decode cX10_law 7 = .ok (.iload_n 1, 1) := by decide +kernel
theorem dX10_law_8 : decode cX10_law 8 = .ok (.ifCond .ne 41, 3) := by decide +kernel
theorem dX10_law_11 : decode cX10_law 11 = .ok (.aload_n 0, 1) := by decide +kernel
theorem dX10_law_12 : decode cX10_law 12 = .ok (.iload_n 2, 1) := by decide +kernel
theorem dX10_law_13 : decode cX10_law 13 = .ok (.invokevirtual 174, 3) := by decide +kernel
theorem dX10_law_16 : decode cX10_law 16 = .ok (.ifCond .eq 33, 3) := by decide +kernel
theorem dX10_law_19 : decode cX10_law 19 = .ok (.aload_n 0, 1) := by decide +kernel
theorem dX10_law_20 : decode cX10_law 20 = .ok (.getfield 43, 3) := by decide +kernel
theorem dX10_law_23 : decode cX10_law 23 = .ok (.aload_n 0, 1) := by decide +kernel
theorem dX10_law_24 : decode cX10_law 24 = .ok (.getfield 30, 3) := by decide +kernel
theorem dX10_law_27 : decode cX10_law 27 = .ok (.iconst 0, 1) := by decide +kernel
theorem dX10_law_28 : decode cX10_law 28 = .ok (.aload_n 0, 1) := by decide +kernel
theorem dX10_law_29 : decode cX10_law 29 = .ok (.getfield 30, 3) := by decide +kernel
theorem dX10_law_32 : decode cX10_law 32 = .ok (.iload_n 2, 1) := by decide +kernel
theorem dX10_law_33 : decode cX10_law 33 = .ok (.invokevirtual 226, 3) := by decide +kernel
theorem dX10_law_36 : decode cX10_law 36 = .ok (.aload_n 0, 1) := by decide +kernel
theorem dX10_law_37 : decode cX10_law 37 = .ok (.getfield 21, 3) := by decide +kernel
theorem dX10_law_40 : decode cX10_law 40 = .ok (.getfield 183, 3) := by decide +kernel
theorem dX10_law_43 : decode cX10_law 43 = .ok (.iload_n 2, 1) := by decide +kernel
theorem dX10_law_44 : decode cX10_law 44 = .ok (.iaload, 1) := by decide +kernel
theorem dX10_law_45 : decode cX10_law 45 = .ok (.invokevirtual 229, 3) := by decide +kernel
theorem dX10_law_48 : decode cX10_law 48 = .ok (.lreturn, 1) := by decide +kernel
theorem dX10_law_49 : decode cX10_law 49 = .ok (.iload_n 1, 1) := by decide +kernel
theorem dX10_law_50 : decode cX10_law 50 = .ok (.iconst 1, 1) := by decide +kernel
theorem dX10_law_51 : decode cX10_law 51 = .ok (.if_icmp .ne 26, 3) := by decide +kernel
theorem dX10_law_54 : decode cX10_law 54 = .ok (.aload_n 0, 1) := by decide +kernel
theorem dX10_law_55 : decode cX10_law 55 = .ok (.iload_n 2, 1) := by decide +kernel
theorem dX10_law_56 : decode cX10_law 56 = .ok (.invokevirtual 124, 3) := by decide +kernel
theorem dX10_law_59 : decode cX10_law 59 = .ok (.ifCond .eq 18, 3) := by decide +kernel
theorem dX10_law_62 : decode cX10_law 62 = .ok (.aload_n 0, 1) := by decide +kernel
theorem dX10_law_63 : decode cX10_law 63 = .ok (.getfield 43, 3) := by decide +kernel
theorem dX10_law_66 : decode cX10_law 66 = .ok (.aload_n 0, 1) := by decide +kernel
theorem dX10_law_67 : decode cX10_law 67 = .ok (.getfield 30, 3) := by decide +kernel
theorem dX10_law_70 : decode cX10_law 70 = .ok (.iconst 1, 1) := by decide +kernel
theorem dX10_law_71 : decode cX10_law 71 = .ok (.iload_n 2, 1) := by decide +kernel
theorem dX10_law_72 : decode cX10_law 72 = .ok (.iconst 0, 1) := by decide +kernel
theorem dX10_law_73 : decode cX10_law 73 = .ok (.invokevirtual 229, 3) := by decide +kernel
theorem dX10_law_76 : decode cX10_law 76 = .ok (.lreturn, 1) := by decide +kernel
theorem dX10_law_77 : decode cX10_law 77 = .ok (.iload_n 1, 1) := by decide +kernel
theorem dX10_law_78 : decode cX10_law 78 = .ok (.iconst 2, 1) := by decide +kernel
theorem dX10_law_79 : decode cX10_law 79 = .ok (.if_icmp .ne 36, 3) := by decide +kernel
theorem dX10_law_82 : decode cX10_law 82 = .ok (.aload_n 0, 1) := by decide +kernel
theorem dX10_law_83 : decode cX10_law 83 = .ok (.iload_n 2, 1) := by decide +kernel
theorem dX10_law_84 : decode cX10_law 84 = .ok (.invokevirtual 211, 3) := by decide +kernel
theorem dX10_law_87 : decode cX10_law 87 = .ok (.ifCond .eq 28, 3) := by decide +kernel
theorem dX10_law_90 : decode cX10_law 90 = .ok (.aload_n 0, 1) := by decide +kernel
theorem dX10_law_91 : decode cX10_law 91 = .ok (.getfield 43, 3) := by decide +kernel
theorem dX10_law_94 : decode cX10_law 94 = .ok (.aload_n 0, 1) := by decide +kernel
theorem dX10_law_95 : decode cX10_law 95 = .ok (.getfield 30, 3) := by decide +kernel
theorem dX10_law_98 : decode cX10_law 98 = .ok (.iconst 2, 1) := by decide +kernel
theorem dX10_law_99 : decode cX10_law 99 = .ok (.aload_n 0, 1) := by decide +kernel
theorem dX10_law_100 : decode cX10_law 100 = .ok (.getfield 21, 3) := by decide +kernel
theorem dX10_law_103 : decode cX10_law 103 = .ok (.getfield 147, 3) := by decide +kernel
theorem dX10_law_106 : decode cX10_law 106 = .ok (.iload_n 2, 1) := by decide +kernel
theorem dX10_law_107 : decode cX10_law 107 = .ok (.invokevirtual 233, 3) := by decide +kernel
theorem dX10_law_110 : decode cX10_law 110 = .ok (.iconst 0, 1) := by decide +kernel
theorem dX10_law_111 : decode cX10_law 111 = .ok (.invokevirtual 229, 3) := by decide +kernel
theorem dX10_law_114 : decode cX10_law 114 = .ok (.lreturn, 1) := by decide +kernel
theorem dX10_law_115 : decode cX10_law 115 = .ok (.ldc2_w 236, 3) := by decide +kernel
theorem dX10_law_118 : decode cX10_law 118 = .ok (.lreturn, 1) := by decide +kernel
theorem dX10_runs_0 : decode cX10_runs 0 = .ok (.aload_n 0, 1) := by decide +kernel
theorem dX10_runs_1 : decode cX10_runs 1 = .ok (.iload_n 1, 1) := by decide +kernel
theorem dX10_runs_2 : decode cX10_runs 2 = .ok (.invokevirtual 174, 3) := by decide +kernel
theorem dX10_runs_5 : decode cX10_runs 5 = .ok (.ifCond .ne 5, 3) := by decide +kernel
theorem dX10_runs_8 : decode cX10_runs 8 = .ok (.iconst (-1), 1) := by decide +kernel
theorem dX10_runs_9 : decode cX10_runs 9 = .ok (.ireturn, 1) := by decide +kernel
theorem dX10_runs_10 : decode cX10_runs 10 = .ok (.iload_n 2, 1) := by decide +kernel
theorem dX10_runs_11 : decode cX10_runs 11 = .ok (.lookupswitch 43 #[(0, 25), (1, 34)], 25) := by decide +kernel
theorem dX10_runs_36 : decode cX10_runs 36 = .ok (.aload_n 0, 1) := by decide +kernel
theorem dX10_runs_37 : decode cX10_runs 37 = .ok (.getfield 30, 3) := by decide +kernel
theorem dX10_runs_40 : decode cX10_runs 40 = .ok (.iload_n 1, 1) := by decide +kernel
theorem dX10_runs_41 : decode cX10_runs 41 = .ok (.invokevirtual 238, 3) := by decide +kernel
theorem dX10_runs_44 : decode cX10_runs 44 = .ok (.ireturn, 1) := by decide +kernel
theorem dX10_runs_45 : decode cX10_runs 45 = .ok (.aload_n 0, 1) := by decide +kernel
theorem dX10_runs_46 : decode cX10_runs 46 = .ok (.getfield 30, 3) := by decide +kernel
theorem dX10_runs_49 : decode cX10_runs 49 = .ok (.iload_n 1, 1) := by decide +kernel
theorem dX10_runs_50 : decode cX10_runs 50 = .ok (.invokevirtual 226, 3) := by decide +kernel
theorem dX10_runs_53 : decode cX10_runs 53 = .ok (.ireturn, 1) := by decide +kernel
theorem dX10_runs_54 : decode cX10_runs 54 = .ok (.iconst (-1), 1) := by decide +kernel
theorem dX10_runs_55 : decode cX10_runs 55 = .ok (.ireturn, 1) := by decide +kernel
theorem dX10_draw_0 : decode cX10_draw 0 = .ok (.aload_n 0, 1) := by decide +kernel
theorem dX10_draw_1 : decode cX10_draw 1 = .ok (.iload_n 1, 1) := by decide +kernel
theorem dX10_draw_2 : decode cX10_draw 2 = .ok (.invokevirtual 174, 3) := by decide +kernel
theorem dX10_draw_5 : decode cX10_draw 5 = .ok (.ifCond .eq 15, 3) := by decide +kernel
theorem dX10_draw_8 : decode cX10_draw 8 = .ok (.iload_n 2, 1) := by decide +kernel
theorem dX10_draw_9 : decode cX10_draw 9 = .ok (.iconst 1, 1) := by decide +kernel
theorem dX10_draw_10 : decode cX10_draw 10 = .ok (.if_icmp .lt 10, 3) := by decide +kernel
theorem dX10_draw_13 : decode cX10_draw 13 = .ok (.iload_n 2, 1) := by decide +kernel
theorem dX10_draw_14 : decode cX10_draw 14 = .ok (.sipush 999, 3) := by decide +kernel
theorem dX10_draw_17 : decode cX10_draw 17 = .ok (.if_icmp .le 5, 3) := by decide +kernel
theorem dX10_draw_20 : decode cX10_draw 20 = .ok (.iconst (-1), 1) := by decide +kernel
theorem dX10_draw_21 : decode cX10_draw 21 = .ok (.ireturn, 1) := by decide +kernel
theorem dX10_draw_22 : decode cX10_draw 22 = .ok (.aload_n 0, 1) := by decide +kernel
theorem dX10_draw_23 : decode cX10_draw 23 = .ok (.getfield 30, 3) := by decide +kernel
theorem dX10_draw_26 : decode cX10_draw 26 = .ok (.iload_n 1, 1) := by decide +kernel
theorem dX10_draw_27 : decode cX10_draw 27 = .ok (.invokevirtual 241, 3) := by decide +kernel
theorem dX10_draw_30 : decode cX10_draw 30 = .ok (.ifCond .eq 6, 3) := by decide +kernel
theorem dX10_draw_33 : decode cX10_draw 33 = .ok (.bipush (-2), 2) := by decide +kernel
theorem dX10_draw_35 : decode cX10_draw 35 = .ok (.ireturn, 1) := by decide +kernel
theorem dX10_draw_36 : decode cX10_draw 36 = .ok (.aload_n 0, 1) := by decide +kernel
theorem dX10_draw_37 : decode cX10_draw 37 = .ok (.getfield 64, 3) := by decide +kernel
theorem dX10_draw_40 : decode cX10_draw 40 = .ok (.aload_n 0, 1) := by decide +kernel
theorem dX10_draw_41 : decode cX10_draw 41 = .ok (.getfield 30, 3) := by decide +kernel
theorem dX10_draw_44 : decode cX10_draw 44 = .ok (.invokevirtual 244, 3) := by decide +kernel
theorem dX10_draw_47 : decode cX10_draw 47 = .ok (.aload_n 0, 1) := by decide +kernel
theorem dX10_draw_48 : decode cX10_draw 48 = .ok (.getfield 30, 3) := by decide +kernel
theorem dX10_draw_51 : decode cX10_draw 51 = .ok (.iload_n 1, 1) := by decide +kernel
theorem dX10_draw_52 : decode cX10_draw 52 = .ok (.iload_n 2, 1) := by decide +kernel
theorem dX10_draw_53 : decode cX10_draw 53 = .ok (.invokevirtual 248, 3) := by decide +kernel
theorem dX10_draw_56 : decode cX10_draw 56 = .ok (.ireturn, 1) := by decide +kernel
theorem dX10_fill_0 : decode cX10_fill 0 = .ok (.aload_n 0, 1) := by decide +kernel
theorem dX10_fill_1 : decode cX10_fill 1 = .ok (.iload_n 1, 1) := by decide +kernel
theorem dX10_fill_2 : decode cX10_fill 2 = .ok (.invokevirtual 124, 3) := by decide +kernel
theorem dX10_fill_5 : decode cX10_fill 5 = .ok (.ifCond .eq 10, 3) := by decide +kernel
theorem dX10_fill_8 : decode cX10_fill 8 = .ok (.iload_n 2, 1) := by decide +kernel
theorem dX10_fill_9 : decode cX10_fill 9 = .ok (.invokestatic 252, 3) := by decide +kernel
theorem dX10_fill_12 : decode cX10_fill 12 = .ok (.ifCond .ne 5, 3) := by decide +kernel
theorem dX10_fill_15 : decode cX10_fill 15 = .ok (.iconst (-1), 1) := by decide +kernel
theorem dX10_fill_16 : decode cX10_fill 16 = .ok (.ireturn, 1) := by decide +kernel
theorem dX10_fill_17 : decode cX10_fill 17 = .ok (.aload_n 0, 1) := by decide +kernel
theorem dX10_fill_18 : decode cX10_fill 18 = .ok (.getfield 64, 3) := by decide +kernel
theorem dX10_fill_21 : decode cX10_fill 21 = .ok (.aload_n 0, 1) := by decide +kernel
theorem dX10_fill_22 : decode cX10_fill 22 = .ok (.getfield 30, 3) := by decide +kernel
theorem dX10_fill_25 : decode cX10_fill 25 = .ok (.invokevirtual 244, 3) := by decide +kernel
theorem dX10_fill_28 : decode cX10_fill 28 = .ok (.aload_n 0, 1) := by decide +kernel
theorem dX10_fill_29 : decode cX10_fill 29 = .ok (.getfield 30, 3) := by decide +kernel
theorem dX10_fill_32 : decode cX10_fill 32 = .ok (.iload_n 1, 1) := by decide +kernel
theorem dX10_fill_33 : decode cX10_fill 33 = .ok (.iload_n 2, 1) := by decide +kernel
theorem dX10_fill_34 : decode cX10_fill 34 = .ok (.invokevirtual 255, 3) := by decide +kernel
theorem dX10_fill_37 : decode cX10_fill 37 = .ok (.aload_n 0, 1) := by decide +kernel
theorem dX10_fill_38 : decode cX10_fill 38 = .ok (.getfield 30, 3) := by decide +kernel
theorem dX10_fill_41 : decode cX10_fill 41 = .ok (.getfield 141, 3) := by decide +kernel
theorem dX10_fill_44 : decode cX10_fill 44 = .ok (.iload_n 1, 1) := by decide +kernel
theorem dX10_fill_45 : decode cX10_fill 45 = .ok (.iaload, 1) := by decide +kernel
theorem dX10_fill_46 : decode cX10_fill 46 = .ok (.ireturn, 1) := by decide +kernel
theorem dX10_spill_0 : decode cX10_spill 0 = .ok (.aload_n 0, 1) := by decide +kernel
theorem dX10_spill_1 : decode cX10_spill 1 = .ok (.iload_n 1, 1) := by decide +kernel
theorem dX10_spill_2 : decode cX10_spill 2 = .ok (.invokevirtual 124, 3) := by decide +kernel
theorem dX10_spill_5 : decode cX10_spill 5 = .ok (.ifCond .eq 10, 3) := by decide +kernel
theorem dX10_spill_8 : decode cX10_spill 8 = .ok (.iload_n 2, 1) := by decide +kernel
theorem dX10_spill_9 : decode cX10_spill 9 = .ok (.invokestatic 252, 3) := by decide +kernel
theorem dX10_spill_12 : decode cX10_spill 12 = .ok (.ifCond .ne 5, 3) := by decide +kernel
theorem dX10_spill_15 : decode cX10_spill 15 = .ok (.iconst (-1), 1) := by decide +kernel
theorem dX10_spill_16 : decode cX10_spill 16 = .ok (.ireturn, 1) := by decide +kernel
theorem dX10_spill_17 : decode cX10_spill 17 = .ok (.aload_n 0, 1) := by decide +kernel
theorem dX10_spill_18 : decode cX10_spill 18 = .ok (.getfield 30, 3) := by decide +kernel
theorem dX10_spill_21 : decode cX10_spill 21 = .ok (.getfield 141, 3) := by decide +kernel
theorem dX10_spill_24 : decode cX10_spill 24 = .ok (.iload_n 1, 1) := by decide +kernel
theorem dX10_spill_25 : decode cX10_spill 25 = .ok (.iaload, 1) := by decide +kernel
theorem dX10_spill_26 : decode cX10_spill 26 = .ok (.iload_n 2, 1) := by decide +kernel
theorem dX10_spill_27 : decode cX10_spill 27 = .ok (.if_icmp .ge 6, 3) := by decide +kernel
theorem dX10_spill_30 : decode cX10_spill 30 = .ok (.bipush (-2), 2) := by decide +kernel
theorem dX10_spill_32 : decode cX10_spill 32 = .ok (.ireturn, 1) := by decide +kernel
theorem dX10_spill_33 : decode cX10_spill 33 = .ok (.aload_n 0, 1) := by decide +kernel
theorem dX10_spill_34 : decode cX10_spill 34 = .ok (.getfield 64, 3) := by decide +kernel
theorem dX10_spill_37 : decode cX10_spill 37 = .ok (.aload_n 0, 1) := by decide +kernel
theorem dX10_spill_38 : decode cX10_spill 38 = .ok (.getfield 30, 3) := by decide +kernel
theorem dX10_spill_41 : decode cX10_spill 41 = .ok (.invokevirtual 244, 3) := by decide +kernel
theorem dX10_spill_44 : decode cX10_spill 44 = .ok (.aload_n 0, 1) := by decide +kernel
theorem dX10_spill_45 : decode cX10_spill 45 = .ok (.getfield 30, 3) := by decide +kernel
theorem dX10_spill_48 : decode cX10_spill 48 = .ok (.iload_n 1, 1) := by decide +kernel
theorem dX10_spill_49 : decode cX10_spill 49 = .ok (.iload_n 2, 1) := by decide +kernel
theorem dX10_spill_50 : decode cX10_spill 50 = .ok (.invokevirtual 259, 3) := by decide +kernel
theorem dX10_spill_53 : decode cX10_spill 53 = .ok (.aload_n 0, 1) := by decide +kernel
theorem dX10_spill_54 : decode cX10_spill 54 = .ok (.getfield 30, 3) := by decide +kernel
theorem dX10_spill_57 : decode cX10_spill 57 = .ok (.getfield 141, 3) := by decide +kernel
theorem dX10_spill_60 : decode cX10_spill 60 = .ok (.iload_n 1, 1) := by decide +kernel
theorem dX10_spill_61 : decode cX10_spill 61 = .ok (.iaload, 1) := by decide +kernel
theorem dX10_spill_62 : decode cX10_spill 62 = .ok (.ireturn, 1) := by decide +kernel
theorem dX10_mend_0 : decode cX10_mend 0 = .ok (.aload_n 0, 1) := by decide +kernel
theorem dX10_mend_1 : decode cX10_mend 1 = .ok (.iload_n 1, 1) := by decide +kernel
theorem dX10_mend_2 : decode cX10_mend 2 = .ok (.invokevirtual 174, 3) := by decide +kernel
theorem dX10_mend_5 : decode cX10_mend 5 = .ok (.ifCond .eq 14, 3) := by decide +kernel
theorem dX10_mend_8 : decode cX10_mend 8 = .ok (.aload_n 0, 1) := by decide +kernel
theorem dX10_mend_9 : decode cX10_mend 9 = .ok (.getfield 30, 3) := by decide +kernel
theorem dX10_mend_12 : decode cX10_mend 12 = .ok (.iload_n 1, 1) := by decide +kernel
theorem dX10_mend_13 : decode cX10_mend 13 = .ok (.invokevirtual 241, 3) := by decide +kernel
theorem dX10_mend_16 : decode cX10_mend 16 = .ok (.ifCond .ne 5, 3) := by decide +kernel
theorem dX10_mend_19 : decode cX10_mend 19 = .ok (.iconst 0, 1) := by decide +kernel
theorem dX10_mend_20 : decode cX10_mend 20 = .ok (.ireturn, 1) := by decide +kernel
theorem dX10_mend_21 : decode cX10_mend 21 = .ok (.aload_n 0, 1) := by decide +kernel
theorem dX10_mend_22 : decode cX10_mend 22 = .ok (.getfield 64, 3) := by decide +kernel
theorem dX10_mend_25 : decode cX10_mend 25 = .ok (.aload_n 0, 1) := by decide +kernel
theorem dX10_mend_26 : decode cX10_mend 26 = .ok (.getfield 30, 3) := by decide +kernel
theorem dX10_mend_29 : decode cX10_mend 29 = .ok (.invokevirtual 244, 3) := by decide +kernel
theorem dX10_mend_32 : decode cX10_mend 32 = .ok (.aload_n 0, 1) := by decide +kernel
theorem dX10_mend_33 : decode cX10_mend 33 = .ok (.getfield 30, 3) := by decide +kernel
theorem dX10_mend_36 : decode cX10_mend 36 = .ok (.dup, 1) := by decide +kernel
theorem dX10_mend_37 : decode cX10_mend 37 = .ok (.getfield 193, 3) := by decide +kernel
theorem dX10_mend_40 : decode cX10_mend 40 = .ok (.iconst 1, 1) := by decide +kernel
theorem dX10_mend_41 : decode cX10_mend 41 = .ok (.iload_n 1, 1) := by decide +kernel
theorem dX10_mend_42 : decode cX10_mend 42 = .ok (.ishl, 1) := by decide +kernel
theorem dX10_mend_43 : decode cX10_mend 43 = .ok (.iconst (-1), 1) := by decide +kernel
theorem dX10_mend_44 : decode cX10_mend 44 = .ok (.ixor, 1) := by decide +kernel
theorem dX10_mend_45 : decode cX10_mend 45 = .ok (.iand, 1) := by decide +kernel
theorem dX10_mend_46 : decode cX10_mend 46 = .ok (.putfield 193, 3) := by decide +kernel
theorem dX10_mend_49 : decode cX10_mend 49 = .ok (.iconst 1, 1) := by decide +kernel
theorem dX10_mend_50 : decode cX10_mend 50 = .ok (.ireturn, 1) := by decide +kernel
theorem dX10_go_0 : decode cX10_go 0 = .ok (.iload_n 1, 1) := by decide +kernel
theorem dX10_go_1 : decode cX10_go 1 = .ok (.ifCond .lt 25, 3) := by decide +kernel
theorem dX10_go_4 : decode cX10_go 4 = .ok (.iload_n 1, 1) := by decide +kernel
theorem dX10_go_5 : decode cX10_go 5 = .ok (.sipush 200, 3) := by decide +kernel
theorem dX10_go_8 : decode cX10_go 8 = .ok (.if_icmp .gt 18, 3) := by decide +kernel
theorem dX10_go_11 : decode cX10_go 11 = .ok (.aload_n 0, 1) := by decide +kernel
theorem dX10_go_12 : decode cX10_go 12 = .ok (.getfield 30, 3) := by decide +kernel
theorem dX10_go_15 : decode cX10_go 15 = .ok (.getfield 262, 3) := by decide +kernel
theorem dX10_go_18 : decode cX10_go 18 = .ok (.iload_n 1, 1) := by decide +kernel
theorem dX10_go_19 : decode cX10_go 19 = .ok (.iadd, 1) := by decide +kernel
theorem dX10_go_20 : decode cX10_go 20 = .ok (.sipush 9800, 3) := by decide +kernel
theorem dX10_go_23 : decode cX10_go 23 = .ok (.if_icmp .le 5, 3) := by decide +kernel
theorem dX10_go_26 : decode cX10_go 26 = .ok (.iconst (-1), 1) := by decide +kernel
theorem dX10_go_27 : decode cX10_go 27 = .ok (.ireturn, 1) := by decide +kernel
theorem dX10_go_28 : decode cX10_go 28 = .ok (.aload_n 0, 1) := by decide +kernel
theorem dX10_go_29 : decode cX10_go 29 = .ok (.getfield 43, 3) := by decide +kernel
theorem dX10_go_32 : decode cX10_go 32 = .ok (.invokevirtual 186, 3) := by decide +kernel
theorem dX10_go_35 : decode cX10_go 35 = .ok (.aload_n 0, 1) := by decide +kernel
theorem dX10_go_36 : decode cX10_go 36 = .ok (.getfield 43, 3) := by decide +kernel
theorem dX10_go_39 : decode cX10_go 39 = .ok (.iconst 1, 1) := by decide +kernel
theorem dX10_go_40 : decode cX10_go 40 = .ok (.putfield 265, 3) := by decide +kernel
theorem dX10_go_43 : decode cX10_go 43 = .ok (.aload_n 0, 1) := by decide +kernel
theorem dX10_go_44 : decode cX10_go 44 = .ok (.getfield 43, 3) := by decide +kernel
theorem dX10_go_47 : decode cX10_go 47 = .ok (.aload_n 0, 1) := by decide +kernel
theorem dX10_go_48 : decode cX10_go 48 = .ok (.getfield 30, 3) := by decide +kernel
theorem dX10_go_51 : decode cX10_go 51 = .ok (.iload_n 1, 1) := by decide +kernel
theorem dX10_go_52 : decode cX10_go 52 = .ok (.invokevirtual 268, 3) := by decide +kernel
theorem dX10_go_55 : decode cX10_go 55 = .ok (.iload_n 1, 1) := by decide +kernel
theorem dX10_go_56 : decode cX10_go 56 = .ok (.ifCond .le 10, 3) := by decide +kernel
theorem dX10_go_59 : decode cX10_go 59 = .ok (.aload_n 0, 1) := by decide +kernel
theorem dX10_go_60 : decode cX10_go 60 = .ok (.getfield 64, 3) := by decide +kernel
theorem dX10_go_63 : decode cX10_go 63 = .ok (.invokevirtual 116, 3) := by decide +kernel
theorem dX10_go_66 : decode cX10_go 66 = .ok (.aload_n 0, 1) := by decide +kernel
theorem dX10_go_67 : decode cX10_go 67 = .ok (.getfield 30, 3) := by decide +kernel
theorem dX10_go_70 : decode cX10_go 70 = .ok (.getfield 262, 3) := by decide +kernel
theorem dX10_go_73 : decode cX10_go 73 = .ok (.ireturn, 1) := by decide +kernel
theorem dX10_ahead_0 : decode cX10_ahead 0 = .ok (.iload_n 1, 1) := by decide +kernel
theorem dX10_ahead_1 : decode cX10_ahead 1 = .ok (.ifCond .lt 31, 3) := by decide +kernel
theorem dX10_ahead_4 : decode cX10_ahead 4 = .ok (.iload_n 1, 1) := by decide +kernel
theorem dX10_ahead_5 : decode cX10_ahead 5 = .ok (.sipush 200, 3) := by decide +kernel
theorem dX10_ahead_8 : decode cX10_ahead 8 = .ok (.if_icmp .gt 24, 3) := by decide +kernel
theorem dX10_ahead_11 : decode cX10_ahead 11 = .ok (.iload_n 2, 1) := by decide +kernel
theorem dX10_ahead_12 : decode cX10_ahead 12 = .ok (.ifCond .ne 11, 3) := by decide +kernel
theorem dX10_ahead_15 : decode cX10_ahead 15 = .ok (.aload_n 0, 1) := by decide +kernel
theorem dX10_ahead_16 : decode cX10_ahead 16 = .ok (.iload_n 3, 1) := by decide +kernel
theorem dX10_ahead_17 : decode cX10_ahead 17 = .ok (.invokevirtual 124, 3) := by decide +kernel
theorem dX10_ahead_20 : decode cX10_ahead 20 = .ok (.ifCond .eq 12, 3) := by decide +kernel
theorem dX10_ahead_23 : decode cX10_ahead 23 = .ok (.iload_n 2, 1) := by decide +kernel
theorem dX10_ahead_24 : decode cX10_ahead 24 = .ok (.ifCond .lt 8, 3) := by decide +kernel
theorem dX10_ahead_27 : decode cX10_ahead 27 = .ok (.iload_n 2, 1) := by decide +kernel
theorem dX10_ahead_28 : decode cX10_ahead 28 = .ok (.iconst 4, 1) := by decide +kernel
theorem dX10_ahead_29 : decode cX10_ahead 29 = .ok (.if_icmp .le 5, 3) := by decide +kernel
theorem dX10_ahead_32 : decode cX10_ahead 32 = .ok (.iconst (-1), 1) := by decide +kernel
theorem dX10_ahead_33 : decode cX10_ahead 33 = .ok (.ireturn, 1) := by decide +kernel
theorem dX10_ahead_34 : decode cX10_ahead 34 = .ok (.aload_n 0, 1) := by decide +kernel
theorem dX10_ahead_35 : decode cX10_ahead 35 = .ok (.getfield 37, 3) := by decide +kernel
theorem dX10_ahead_38 : decode cX10_ahead 38 = .ok (.aload_n 0, 1) := by decide +kernel
theorem dX10_ahead_39 : decode cX10_ahead 39 = .ok (.getfield 30, 3) := by decide +kernel
theorem dX10_ahead_42 : decode cX10_ahead 42 = .ok (.invokevirtual 272, 3) := by decide +kernel
theorem dX10_ahead_45 : decode cX10_ahead 45 = .ok (.aload_n 0, 1) := by decide +kernel
theorem dX10_ahead_46 : decode cX10_ahead 46 = .ok (.getfield 43, 3) := by decide +kernel
theorem dX10_ahead_49 : decode cX10_ahead 49 = .ok (.invokevirtual 186, 3) := by decide +kernel
theorem dX10_ahead_52 : decode cX10_ahead 52 = .ok (.aload_n 0, 1) := by decide +kernel
theorem dX10_ahead_53 : decode cX10_ahead 53 = .ok (.getfield 43, 3) := by decide +kernel
theorem dX10_ahead_56 : decode cX10_ahead 56 = .ok (.aload_n 0, 1) := by decide +kernel
theorem dX10_ahead_57 : decode cX10_ahead 57 = .ok (.getfield 37, 3) := by decide +kernel
theorem dX10_ahead_60 : decode cX10_ahead 60 = .ok (.iload_n 1, 1) := by decide +kernel
theorem dX10_ahead_61 : decode cX10_ahead 61 = .ok (.invokevirtual 268, 3) := by decide +kernel
theorem dX10_ahead_64 : decode cX10_ahead 64 = .ok (.iload_n 2, 1) := by decide +kernel
theorem dX10_ahead_65 : decode cX10_ahead 65 = .ok (.tableswitch 77 0 3 #[31, 41, 50, 66], 31) := by decide +kernel
theorem dX10_ahead_96 : decode cX10_ahead 96 = .ok (.aload_n 0, 1) := by decide +kernel
theorem dX10_ahead_97 : decode cX10_ahead 97 = .ok (.getfield 37, 3) := by decide +kernel
theorem dX10_ahead_100 : decode cX10_ahead 100 = .ok (.getfield 141, 3) := by decide +kernel
theorem dX10_ahead_103 : decode cX10_ahead 103 = .ok (.iload_n 3, 1) := by decide +kernel
theorem dX10_ahead_104 : decode cX10_ahead 104 = .ok (.iaload, 1) := by decide +kernel
theorem dX10_ahead_105 : decode cX10_ahead 105 = .ok (.ireturn, 1) := by decide +kernel
theorem dX10_ahead_106 : decode cX10_ahead 106 = .ok (.aload_n 0, 1) := by decide +kernel
theorem dX10_ahead_107 : decode cX10_ahead 107 = .ok (.getfield 37, 3) := by decide +kernel
theorem dX10_ahead_110 : decode cX10_ahead 110 = .ok (.iconst 2, 1) := by decide +kernel
theorem dX10_ahead_111 : decode cX10_ahead 111 = .ok (.invokevirtual 275, 3) := by decide +kernel
theorem dX10_ahead_114 : decode cX10_ahead 114 = .ok (.ireturn, 1) := by decide +kernel
theorem dX10_ahead_115 : decode cX10_ahead 115 = .ok (.aload_n 0, 1) := by decide +kernel
theorem dX10_ahead_116 : decode cX10_ahead 116 = .ok (.getfield 37, 3) := by decide +kernel
theorem dX10_ahead_119 : decode cX10_ahead 119 = .ok (.invokevirtual 278, 3) := by decide +kernel
theorem dX10_ahead_122 : decode cX10_ahead 122 = .ok (.aload_n 0, 1) := by decide +kernel
theorem dX10_ahead_123 : decode cX10_ahead 123 = .ok (.getfield 30, 3) := by decide +kernel
theorem dX10_ahead_126 : decode cX10_ahead 126 = .ok (.invokevirtual 278, 3) := by decide +kernel
theorem dX10_ahead_129 : decode cX10_ahead 129 = .ok (.isub, 1) := by decide +kernel
theorem dX10_ahead_130 : decode cX10_ahead 130 = .ok (.ireturn, 1) := by decide +kernel
theorem dX10_ahead_131 : decode cX10_ahead 131 = .ok (.aload_n 0, 1) := by decide +kernel
theorem dX10_ahead_132 : decode cX10_ahead 132 = .ok (.getfield 37, 3) := by decide +kernel
theorem dX10_ahead_135 : decode cX10_ahead 135 = .ok (.getfield 193, 3) := by decide +kernel
theorem dX10_ahead_138 : decode cX10_ahead 138 = .ok (.invokestatic 282, 3) := by decide +kernel
theorem dX10_ahead_141 : decode cX10_ahead 141 = .ok (.ireturn, 1) := by decide +kernel
theorem dX10_ahead_142 : decode cX10_ahead 142 = .ok (.aload_n 0, 1) := by decide +kernel
theorem dX10_ahead_143 : decode cX10_ahead 143 = .ok (.getfield 37, 3) := by decide +kernel
theorem dX10_ahead_146 : decode cX10_ahead 146 = .ok (.getfield 287, 3) := by decide +kernel
theorem dX10_ahead_149 : decode cX10_ahead 149 = .ok (.aload_n 0, 1) := by decide +kernel
theorem dX10_ahead_150 : decode cX10_ahead 150 = .ok (.getfield 30, 3) := by decide +kernel
theorem dX10_ahead_153 : decode cX10_ahead 153 = .ok (.getfield 287, 3) := by decide +kernel
theorem dX10_ahead_156 : decode cX10_ahead 156 = .ok (.isub, 1) := by decide +kernel
theorem dX10_ahead_157 : decode cX10_ahead 157 = .ok (.ireturn, 1) := by decide +kernel
theorem dX10_upWhen_0 : decode cX10_upWhen 0 = .ok (.aload_n 0, 1) := by decide +kernel
theorem dX10_upWhen_1 : decode cX10_upWhen 1 = .ok (.iload_n 1, 1) := by decide +kernel
theorem dX10_upWhen_2 : decode cX10_upWhen 2 = .ok (.invokevirtual 211, 3) := by decide +kernel
theorem dX10_upWhen_5 : decode cX10_upWhen 5 = .ok (.ifCond .ne 5, 3) := by decide +kernel
theorem dX10_upWhen_8 : decode cX10_upWhen 8 = .ok (.iconst (-1), 1) := by decide +kernel
theorem dX10_upWhen_9 : decode cX10_upWhen 9 = .ok (.ireturn, 1) := by decide +kernel
theorem dX10_upWhen_10 : decode cX10_upWhen 10 = .ok (.aload_n 0, 1) := by decide +kernel
theorem dX10_upWhen_11 : decode cX10_upWhen 11 = .ok (.getfield 37, 3) := by decide +kernel
theorem dX10_upWhen_14 : decode cX10_upWhen 14 = .ok (.aload_n 0, 1) := by decide +kernel
theorem dX10_upWhen_15 : decode cX10_upWhen 15 = .ok (.getfield 30, 3) := by decide +kernel
theorem dX10_upWhen_18 : decode cX10_upWhen 18 = .ok (.invokevirtual 272, 3) := by decide +kernel
theorem dX10_upWhen_21 : decode cX10_upWhen 21 = .ok (.aload_n 0, 1) := by decide +kernel
theorem dX10_upWhen_22 : decode cX10_upWhen 22 = .ok (.getfield 43, 3) := by decide +kernel
theorem dX10_upWhen_25 : decode cX10_upWhen 25 = .ok (.invokevirtual 186, 3) := by decide +kernel
theorem dX10_upWhen_28 : decode cX10_upWhen 28 = .ok (.iconst 0, 1) := by decide +kernel
theorem dX10_upWhen_29 : decode cX10_upWhen 29 = .ok (.istore_n 2, 1) := by decide +kernel
theorem dX10_upWhen_30 : decode cX10_upWhen 30 = .ok (.iload_n 2, 1) := by decide +kernel
theorem dX10_upWhen_31 : decode cX10_upWhen 31 = .ok (.sipush 199, 3) := by decide +kernel
theorem dX10_upWhen_34 : decode cX10_upWhen 34 = .ok (.if_icmp .gt 35, 3) := by decide +kernel
theorem dX10_upWhen_37 : decode cX10_upWhen 37 = .ok (.aload_n 0, 1) := by decide +kernel
theorem dX10_upWhen_38 : decode cX10_upWhen 38 = .ok (.getfield 37, 3) := by decide +kernel
theorem dX10_upWhen_41 : decode cX10_upWhen 41 = .ok (.getfield 220, 3) := by decide +kernel
theorem dX10_upWhen_44 : decode cX10_upWhen 44 = .ok (.iload_n 1, 1) := by decide +kernel
theorem dX10_upWhen_45 : decode cX10_upWhen 45 = .ok (.iaload, 1) := by decide +kernel
theorem dX10_upWhen_46 : decode cX10_upWhen 46 = .ok (.iconst 2, 1) := by decide +kernel
theorem dX10_upWhen_47 : decode cX10_upWhen 47 = .ok (.if_icmp .ne 5, 3) := by decide +kernel
theorem dX10_upWhen_50 : decode cX10_upWhen 50 = .ok (.iload_n 2, 1) := by decide +kernel
theorem dX10_upWhen_51 : decode cX10_upWhen 51 = .ok (.ireturn, 1) := by decide +kernel
theorem dX10_upWhen_52 : decode cX10_upWhen 52 = .ok (.aload_n 0, 1) := by decide +kernel
theorem dX10_upWhen_53 : decode cX10_upWhen 53 = .ok (.getfield 43, 3) := by decide +kernel
theorem dX10_upWhen_56 : decode cX10_upWhen 56 = .ok (.aload_n 0, 1) := by decide +kernel
theorem dX10_upWhen_57 : decode cX10_upWhen 57 = .ok (.getfield 37, 3) := by decide +kernel
theorem dX10_upWhen_60 : decode cX10_upWhen 60 = .ok (.invokevirtual 290, 3) := by decide +kernel
theorem dX10_upWhen_63 : decode cX10_upWhen 63 = .ok (.iinc 2 1, 3) := by decide +kernel
theorem dX10_upWhen_66 : decode cX10_upWhen 66 = .ok (.goto (-36), 3) := by decide +kernel
theorem dX10_upWhen_69 : decode cX10_upWhen 69 = .ok (.bipush (-2), 2) := by decide +kernel
theorem dX10_upWhen_71 : decode cX10_upWhen 71 = .ok (.ireturn, 1) := by decide +kernel
theorem dX10_joined_0 : decode cX10_joined 0 = .ok (.iload_n 1, 1) := by decide +kernel
theorem dX10_joined_1 : decode cX10_joined 1 = .ok (.iconst 1, 1) := by decide +kernel
theorem dX10_joined_2 : decode cX10_joined 2 = .ok (.if_icmp .lt 23, 3) := by decide +kernel
theorem dX10_joined_5 : decode cX10_joined 5 = .ok (.iload_n 1, 1) := by decide +kernel
theorem dX10_joined_6 : decode cX10_joined 6 = .ok (.iconst 1, 1) := by decide +kernel
theorem dX10_joined_7 : decode cX10_joined 7 = .ok (.aload_n 0, 1) := by decide +kernel
theorem dX10_joined_8 : decode cX10_joined 8 = .ok (.getfield 21, 3) := by decide +kernel
theorem dX10_joined_11 : decode cX10_joined 11 = .ok (.getfield 293, 3) := by decide +kernel
theorem dX10_joined_14 : decode cX10_joined 14 = .ok (.ishl, 1) := by decide +kernel
theorem dX10_joined_15 : decode cX10_joined 15 = .ok (.if_icmp .ge 10, 3) := by decide +kernel
theorem dX10_joined_18 : decode cX10_joined 18 = .ok (.iload_n 2, 1) := by decide +kernel
theorem dX10_joined_19 : decode cX10_joined 19 = .ok (.invokestatic 164, 3) := by decide +kernel
theorem dX10_joined_22 : decode cX10_joined 22 = .ok (.ifCond .ne 5, 3) := by decide +kernel
theorem dX10_joined_25 : decode cX10_joined 25 = .ok (.iconst (-1), 1) := by decide +kernel
theorem dX10_joined_26 : decode cX10_joined 26 = .ok (.ireturn, 1) := by decide +kernel
theorem dX10_joined_27 : decode cX10_joined 27 = .ok (.lconst 0, 1) := by decide +kernel
theorem dX10_joined_28 : decode cX10_joined 28 = .ok (.lstore_n 3, 1) := by decide +kernel
theorem dX10_joined_29 : decode cX10_joined 29 = .ok (.lconst 0, 1) := by decide +kernel
theorem dX10_joined_30 : decode cX10_joined 30 = .ok (.lstore 5, 2) := by decide +kernel
theorem dX10_joined_32 : decode cX10_joined 32 = .ok (.iconst 0, 1) := by decide +kernel
theorem dX10_joined_33 : decode cX10_joined 33 = .ok (.istore 7, 2) := by decide +kernel
theorem dX10_joined_35 : decode cX10_joined 35 = .ok (.iload 7, 2) := by decide +kernel
theorem dX10_joined_37 : decode cX10_joined 37 = .ok (.aload_n 0, 1) := by decide +kernel
theorem dX10_joined_38 : decode cX10_joined 38 = .ok (.getfield 21, 3) := by decide +kernel
theorem dX10_joined_41 : decode cX10_joined 41 = .ok (.getfield 293, 3) := by decide +kernel
theorem dX10_joined_44 : decode cX10_joined 44 = .ok (.if_icmp .ge 96, 3) := by decide +kernel
theorem dX10_joined_47 : decode cX10_joined 47 = .ok (.iload_n 1, 1) := by decide +kernel
theorem dX10_joined_48 : decode cX10_joined 48 = .ok (.iload 7, 2) := by decide +kernel
theorem dX10_joined_50 : decode cX10_joined 50 = .ok (.ishr, 1) := by decide +kernel
theorem dX10_joined_51 : decode cX10_joined 51 = .ok (.iconst 1, 1) := by decide +kernel
theorem dX10_joined_52 : decode cX10_joined 52 = .ok (.iand, 1) := by decide +kernel
theorem dX10_joined_53 : decode cX10_joined 53 = .ok (.iconst 1, 1) := by decide +kernel
theorem dX10_joined_54 : decode cX10_joined 54 = .ok (.if_icmp .ne 80, 3) := by decide +kernel
theorem dX10_joined_57 : decode cX10_joined 57 = .ok (.aload_n 0, 1) := by decide +kernel
theorem dX10_joined_58 : decode cX10_joined 58 = .ok (.getfield 30, 3) := by decide +kernel
theorem dX10_joined_61 : decode cX10_joined 61 = .ok (.iload_n 1, 1) := by decide +kernel
theorem dX10_joined_62 : decode cX10_joined 62 = .ok (.invokevirtual 296, 3) := by decide +kernel
theorem dX10_joined_65 : decode cX10_joined 65 = .ok (.i2l, 1) := by decide +kernel
theorem dX10_joined_66 : decode cX10_joined 66 = .ok (.aload_n 0, 1) := by decide +kernel
theorem dX10_joined_67 : decode cX10_joined 67 = .ok (.getfield 21, 3) := by decide +kernel
theorem dX10_joined_70 : decode cX10_joined 70 = .ok (.iload_n 1, 1) := by decide +kernel
theorem dX10_joined_71 : decode cX10_joined 71 = .ok (.aload_n 0, 1) := by decide +kernel
theorem dX10_joined_72 : decode cX10_joined 72 = .ok (.getfield 21, 3) := by decide +kernel
theorem dX10_joined_75 : decode cX10_joined 75 = .ok (.getfield 138, 3) := by decide +kernel
theorem dX10_joined_78 : decode cX10_joined 78 = .ok (.iload 7, 2) := by decide +kernel
theorem dX10_joined_80 : decode cX10_joined 80 = .ok (.iaload, 1) := by decide +kernel
theorem dX10_joined_81 : decode cX10_joined 81 = .ok (.invokevirtual 299, 3) := by decide +kernel
theorem dX10_joined_84 : decode cX10_joined 84 = .ok (.ladd, 1) := by decide +kernel
theorem dX10_joined_85 : decode cX10_joined 85 = .ok (.lstore 8, 2) := by decide +kernel
theorem dX10_joined_87 : decode cX10_joined 87 = .ok (.aload_n 0, 1) := by decide +kernel
theorem dX10_joined_88 : decode cX10_joined 88 = .ok (.getfield 21, 3) := by decide +kernel
theorem dX10_joined_91 : decode cX10_joined 91 = .ok (.iload_n 1, 1) := by decide +kernel
theorem dX10_joined_92 : decode cX10_joined 92 = .ok (.aload_n 0, 1) := by decide +kernel
theorem dX10_joined_93 : decode cX10_joined 93 = .ok (.getfield 21, 3) := by decide +kernel
theorem dX10_joined_96 : decode cX10_joined 96 = .ok (.getfield 138, 3) := by decide +kernel
theorem dX10_joined_99 : decode cX10_joined 99 = .ok (.iload 7, 2) := by decide +kernel
theorem dX10_joined_101 : decode cX10_joined 101 = .ok (.iaload, 1) := by decide +kernel
theorem dX10_joined_102 : decode cX10_joined 102 = .ok (.invokevirtual 303, 3) := by decide +kernel
theorem dX10_joined_105 : decode cX10_joined 105 = .ok (.lstore 10, 2) := by decide +kernel
theorem dX10_joined_107 : decode cX10_joined 107 = .ok (.lload 5, 2) := by decide +kernel
theorem dX10_joined_109 : decode cX10_joined 109 = .ok (.lconst 0, 1) := by decide +kernel
theorem dX10_joined_110 : decode cX10_joined 110 = .ok (.lcmp, 1) := by decide +kernel
theorem dX10_joined_111 : decode cX10_joined 111 = .ok (.ifCond .eq 16, 3) := by decide +kernel
theorem dX10_joined_114 : decode cX10_joined 114 = .ok (.lload 8, 2) := by decide +kernel
theorem dX10_joined_116 : decode cX10_joined 116 = .ok (.lload 5, 2) := by decide +kernel
theorem dX10_joined_118 : decode cX10_joined 118 = .ok (.lmul, 1) := by decide +kernel
theorem dX10_joined_119 : decode cX10_joined 119 = .ok (.lload_n 3, 1) := by decide +kernel
theorem dX10_joined_120 : decode cX10_joined 120 = .ok (.lload 10, 2) := by decide +kernel
theorem dX10_joined_122 : decode cX10_joined 122 = .ok (.lmul, 1) := by decide +kernel
theorem dX10_joined_123 : decode cX10_joined 123 = .ok (.lcmp, 1) := by decide +kernel
theorem dX10_joined_124 : decode cX10_joined 124 = .ok (.ifCond .ge 10, 3) := by decide +kernel
theorem dX10_joined_127 : decode cX10_joined 127 = .ok (.lload 8, 2) := by decide +kernel
theorem dX10_joined_129 : decode cX10_joined 129 = .ok (.lstore_n 3, 1) := by decide +kernel
theorem dX10_joined_130 : decode cX10_joined 130 = .ok (.lload 10, 2) := by decide +kernel
theorem dX10_joined_132 : decode cX10_joined 132 = .ok (.lstore 5, 2) := by decide +kernel
theorem dX10_joined_134 : decode cX10_joined 134 = .ok (.iinc 7 1, 3) := by decide +kernel
theorem dX10_joined_137 : decode cX10_joined 137 = .ok (.goto (-102), 3) := by decide +kernel
theorem dX10_joined_140 : decode cX10_joined 140 = .ok (.lload_n 3, 1) := by decide +kernel
theorem dX10_joined_141 : decode cX10_joined 141 = .ok (.lload 5, 2) := by decide +kernel
theorem dX10_joined_143 : decode cX10_joined 143 = .ok (.iload_n 2, 1) := by decide +kernel
theorem dX10_joined_144 : decode cX10_joined 144 = .ok (.invokestatic 170, 3) := by decide +kernel
theorem dX10_joined_147 : decode cX10_joined 147 = .ok (.l2i, 1) := by decide +kernel
theorem dX10_joined_148 : decode cX10_joined 148 = .ok (.ireturn, 1) := by decide +kernel
theorem dX10_needs_0 : decode cX10_needs 0 = .ok (.aload_n 0, 1) := by decide +kernel
theorem dX10_needs_1 : decode cX10_needs 1 = .ok (.iload_n 1, 1) := by decide +kernel
theorem dX10_needs_2 : decode cX10_needs 2 = .ok (.invokevirtual 124, 3) := by decide +kernel
theorem dX10_needs_5 : decode cX10_needs 5 = .ok (.ifCond .eq 10, 3) := by decide +kernel
theorem dX10_needs_8 : decode cX10_needs 8 = .ok (.iload_n 2, 1) := by decide +kernel
theorem dX10_needs_9 : decode cX10_needs 9 = .ok (.invokestatic 306, 3) := by decide +kernel
theorem dX10_needs_12 : decode cX10_needs 12 = .ok (.ifCond .ne 5, 3) := by decide +kernel
theorem dX10_needs_15 : decode cX10_needs 15 = .ok (.iconst (-1), 1) := by decide +kernel
theorem dX10_needs_16 : decode cX10_needs 16 = .ok (.ireturn, 1) := by decide +kernel
theorem dX10_needs_17 : decode cX10_needs 17 = .ok (.iconst 0, 1) := by decide +kernel
theorem dX10_needs_18 : decode cX10_needs 18 = .ok (.aload_n 0, 1) := by decide +kernel
theorem dX10_needs_19 : decode cX10_needs 19 = .ok (.getfield 21, 3) := by decide +kernel
theorem dX10_needs_22 : decode cX10_needs 22 = .ok (.iload_n 1, 1) := by decide +kernel
theorem dX10_needs_23 : decode cX10_needs 23 = .ok (.iload_n 2, 1) := by decide +kernel
theorem dX10_needs_24 : decode cX10_needs 24 = .ok (.invokevirtual 309, 3) := by decide +kernel
theorem dX10_needs_27 : decode cX10_needs 27 = .ok (.aload_n 0, 1) := by decide +kernel
theorem dX10_needs_28 : decode cX10_needs 28 = .ok (.getfield 30, 3) := by decide +kernel
theorem dX10_needs_31 : decode cX10_needs 31 = .ok (.getfield 141, 3) := by decide +kernel
theorem dX10_needs_34 : decode cX10_needs 34 = .ok (.iload_n 1, 1) := by decide +kernel
theorem dX10_needs_35 : decode cX10_needs 35 = .ok (.iaload, 1) := by decide +kernel
theorem dX10_needs_36 : decode cX10_needs 36 = .ok (.isub, 1) := by decide +kernel
theorem dX10_needs_37 : decode cX10_needs 37 = .ok (.invokestatic 312, 3) := by decide +kernel
theorem dX10_needs_40 : decode cX10_needs 40 = .ok (.ireturn, 1) := by decide +kernel
theorem dX10_spare_0 : decode cX10_spare 0 = .ok (.aload_n 0, 1) := by decide +kernel
theorem dX10_spare_1 : decode cX10_spare 1 = .ok (.iload_n 1, 1) := by decide +kernel
theorem dX10_spare_2 : decode cX10_spare 2 = .ok (.invokevirtual 124, 3) := by decide +kernel
theorem dX10_spare_5 : decode cX10_spare 5 = .ok (.ifCond .eq 10, 3) := by decide +kernel
theorem dX10_spare_8 : decode cX10_spare 8 = .ok (.iload_n 2, 1) := by decide +kernel
theorem dX10_spare_9 : decode cX10_spare 9 = .ok (.invokestatic 306, 3) := by decide +kernel
theorem dX10_spare_12 : decode cX10_spare 12 = .ok (.ifCond .ne 5, 3) := by decide +kernel
theorem dX10_spare_15 : decode cX10_spare 15 = .ok (.iconst (-1), 1) := by decide +kernel
theorem dX10_spare_16 : decode cX10_spare 16 = .ok (.ireturn, 1) := by decide +kernel
theorem dX10_spare_17 : decode cX10_spare 17 = .ok (.iconst 0, 1) := by decide +kernel
theorem dX10_spare_18 : decode cX10_spare 18 = .ok (.aload_n 0, 1) := by decide +kernel
theorem dX10_spare_19 : decode cX10_spare 19 = .ok (.getfield 30, 3) := by decide +kernel
theorem dX10_spare_22 : decode cX10_spare 22 = .ok (.getfield 141, 3) := by decide +kernel
theorem dX10_spare_25 : decode cX10_spare 25 = .ok (.iload_n 1, 1) := by decide +kernel
theorem dX10_spare_26 : decode cX10_spare 26 = .ok (.iaload, 1) := by decide +kernel
theorem dX10_spare_27 : decode cX10_spare 27 = .ok (.aload_n 0, 1) := by decide +kernel
theorem dX10_spare_28 : decode cX10_spare 28 = .ok (.getfield 21, 3) := by decide +kernel
theorem dX10_spare_31 : decode cX10_spare 31 = .ok (.iload_n 1, 1) := by decide +kernel
theorem dX10_spare_32 : decode cX10_spare 32 = .ok (.iload_n 2, 1) := by decide +kernel
theorem dX10_spare_33 : decode cX10_spare 33 = .ok (.invokevirtual 309, 3) := by decide +kernel
theorem dX10_spare_36 : decode cX10_spare 36 = .ok (.isub, 1) := by decide +kernel
theorem dX10_spare_37 : decode cX10_spare 37 = .ok (.invokestatic 312, 3) := by decide +kernel
theorem dX10_spare_40 : decode cX10_spare 40 = .ok (.ireturn, 1) := by decide +kernel
theorem dX10_lift_0 : decode cX10_lift 0 = .ok (.aload_n 0, 1) := by decide +kernel
theorem dX10_lift_1 : decode cX10_lift 1 = .ok (.iload_n 1, 1) := by decide +kernel
theorem dX10_lift_2 : decode cX10_lift 2 = .ok (.invokevirtual 196, 3) := by decide +kernel
theorem dX10_lift_5 : decode cX10_lift 5 = .ok (.ifCond .eq 14, 3) := by decide +kernel
theorem dX10_lift_8 : decode cX10_lift 8 = .ok (.aload_n 0, 1) := by decide +kernel
theorem dX10_lift_9 : decode cX10_lift 9 = .ok (.getfield 21, 3) := by decide +kernel
theorem dX10_lift_12 : decode cX10_lift 12 = .ok (.iload_n 1, 1) := by decide +kernel
theorem dX10_lift_13 : decode cX10_lift 13 = .ok (.invokevirtual 317, 3) := by decide +kernel
theorem dX10_lift_16 : decode cX10_lift 16 = .ok (.goto 4, 3) := by decide +kernel
theorem dX10_lift_19 : decode cX10_lift 19 = .ok (.iconst (-1), 1) := by decide +kernel
theorem dX10_lift_20 : decode cX10_lift 20 = .ok (.ireturn, 1) := by decide +kernel
theorem dX10_fewest_0 : decode cX10_fewest 0 = .ok (.aload_n 0, 1) := by decide +kernel
theorem dX10_fewest_1 : decode cX10_fewest 1 = .ok (.iload_n 1, 1) := by decide +kernel
theorem dX10_fewest_2 : decode cX10_fewest 2 = .ok (.invokevirtual 124, 3) := by decide +kernel
theorem dX10_fewest_5 : decode cX10_fewest 5 = .ok (.ifCond .eq 17, 3) := by decide +kernel
theorem dX10_fewest_8 : decode cX10_fewest 8 = .ok (.iload_n 2, 1) := by decide +kernel
theorem dX10_fewest_9 : decode cX10_fewest 9 = .ok (.invokestatic 306, 3) := by decide +kernel
theorem dX10_fewest_12 : decode cX10_fewest 12 = .ok (.ifCond .eq 10, 3) := by decide +kernel
theorem dX10_fewest_15 : decode cX10_fewest 15 = .ok (.iload_n 3, 1) := by decide +kernel
theorem dX10_fewest_16 : decode cX10_fewest 16 = .ok (.invokestatic 164, 3) := by decide +kernel
theorem dX10_fewest_19 : decode cX10_fewest 19 = .ok (.ifCond .ne 5, 3) := by decide +kernel
theorem dX10_fewest_22 : decode cX10_fewest 22 = .ok (.iconst (-1), 1) := by decide +kernel
theorem dX10_fewest_23 : decode cX10_fewest 23 = .ok (.ireturn, 1) := by decide +kernel
theorem dX10_fewest_24 : decode cX10_fewest 24 = .ok (.aload_n 0, 1) := by decide +kernel
theorem dX10_fewest_25 : decode cX10_fewest 25 = .ok (.getfield 37, 3) := by decide +kernel
theorem dX10_fewest_28 : decode cX10_fewest 28 = .ok (.aload_n 0, 1) := by decide +kernel
theorem dX10_fewest_29 : decode cX10_fewest 29 = .ok (.getfield 30, 3) := by decide +kernel
theorem dX10_fewest_32 : decode cX10_fewest 32 = .ok (.invokevirtual 272, 3) := by decide +kernel
theorem dX10_fewest_35 : decode cX10_fewest 35 = .ok (.aload_n 0, 1) := by decide +kernel
theorem dX10_fewest_36 : decode cX10_fewest 36 = .ok (.getfield 50, 3) := by decide +kernel
theorem dX10_fewest_39 : decode cX10_fewest 39 = .ok (.aload_n 0, 1) := by decide +kernel
theorem dX10_fewest_40 : decode cX10_fewest 40 = .ok (.getfield 37, 3) := by decide +kernel
theorem dX10_fewest_43 : decode cX10_fewest 43 = .ok (.iload_n 1, 1) := by decide +kernel
theorem dX10_fewest_44 : decode cX10_fewest 44 = .ok (.iload_n 2, 1) := by decide +kernel
theorem dX10_fewest_45 : decode cX10_fewest 45 = .ok (.iload_n 1, 1) := by decide +kernel
theorem dX10_fewest_46 : decode cX10_fewest 46 = .ok (.invokevirtual 320, 3) := by decide +kernel
theorem dX10_fewest_49 : decode cX10_fewest 49 = .ok (.iload_n 3, 1) := by decide +kernel
theorem dX10_fewest_50 : decode cX10_fewest 50 = .ok (.ifCond .ne 13, 3) := by decide +kernel
theorem dX10_fewest_53 : decode cX10_fewest 53 = .ok (.aload_n 0, 1) := by decide +kernel
theorem dX10_fewest_54 : decode cX10_fewest 54 = .ok (.getfield 50, 3) := by decide +kernel
theorem dX10_fewest_57 : decode cX10_fewest 57 = .ok (.getfield 324, 3) := by decide +kernel
theorem dX10_fewest_60 : decode cX10_fewest 60 = .ok (.goto 10, 3) := by decide +kernel
theorem dX10_fewest_63 : decode cX10_fewest 63 = .ok (.aload_n 0, 1) := by decide +kernel
theorem dX10_fewest_64 : decode cX10_fewest 64 = .ok (.getfield 50, 3) := by decide +kernel
theorem dX10_fewest_67 : decode cX10_fewest 67 = .ok (.getfield 327, 3) := by decide +kernel
theorem dX10_fewest_70 : decode cX10_fewest 70 = .ok (.ireturn, 1) := by decide +kernel
theorem dX10_draws_0 : decode cX10_draws 0 = .ok (.aload_n 0, 1) := by decide +kernel
theorem dX10_draws_1 : decode cX10_draws 1 = .ok (.iload_n 1, 1) := by decide +kernel
theorem dX10_draws_2 : decode cX10_draws 2 = .ok (.invokevirtual 124, 3) := by decide +kernel
theorem dX10_draws_5 : decode cX10_draws 5 = .ok (.ifCond .eq 23, 3) := by decide +kernel
theorem dX10_draws_8 : decode cX10_draws 8 = .ok (.iload_n 2, 1) := by decide +kernel
theorem dX10_draws_9 : decode cX10_draws 9 = .ok (.invokestatic 306, 3) := by decide +kernel
theorem dX10_draws_12 : decode cX10_draws 12 = .ok (.ifCond .eq 16, 3) := by decide +kernel
theorem dX10_draws_15 : decode cX10_draws 15 = .ok (.aload_n 0, 1) := by decide +kernel
theorem dX10_draws_16 : decode cX10_draws 16 = .ok (.iload_n 3, 1) := by decide +kernel
theorem dX10_draws_17 : decode cX10_draws 17 = .ok (.invokevirtual 124, 3) := by decide +kernel
theorem dX10_draws_20 : decode cX10_draws 20 = .ok (.ifCond .eq 8, 3) := by decide +kernel
theorem dX10_draws_23 : decode cX10_draws 23 = .ok (.iload_n 1, 1) := by decide +kernel
theorem dX10_draws_24 : decode cX10_draws 24 = .ok (.iload_n 3, 1) := by decide +kernel
theorem dX10_draws_25 : decode cX10_draws 25 = .ok (.if_icmp .ne 5, 3) := by decide +kernel
theorem dX10_draws_28 : decode cX10_draws 28 = .ok (.iconst (-1), 1) := by decide +kernel
theorem dX10_draws_29 : decode cX10_draws 29 = .ok (.ireturn, 1) := by decide +kernel
theorem dX10_draws_30 : decode cX10_draws 30 = .ok (.aload_n 0, 1) := by decide +kernel
theorem dX10_draws_31 : decode cX10_draws 31 = .ok (.getfield 37, 3) := by decide +kernel
theorem dX10_draws_34 : decode cX10_draws 34 = .ok (.aload_n 0, 1) := by decide +kernel
theorem dX10_draws_35 : decode cX10_draws 35 = .ok (.getfield 30, 3) := by decide +kernel
theorem dX10_draws_38 : decode cX10_draws 38 = .ok (.invokevirtual 272, 3) := by decide +kernel
theorem dX10_draws_41 : decode cX10_draws 41 = .ok (.aload_n 0, 1) := by decide +kernel
theorem dX10_draws_42 : decode cX10_draws 42 = .ok (.getfield 50, 3) := by decide +kernel
theorem dX10_draws_45 : decode cX10_draws 45 = .ok (.aload_n 0, 1) := by decide +kernel
theorem dX10_draws_46 : decode cX10_draws 46 = .ok (.getfield 37, 3) := by decide +kernel
theorem dX10_draws_49 : decode cX10_draws 49 = .ok (.iload_n 1, 1) := by decide +kernel
theorem dX10_draws_50 : decode cX10_draws 50 = .ok (.iload_n 2, 1) := by decide +kernel
theorem dX10_draws_51 : decode cX10_draws 51 = .ok (.iload_n 3, 1) := by decide +kernel
theorem dX10_draws_52 : decode cX10_draws 52 = .ok (.invokevirtual 320, 3) := by decide +kernel
theorem dX10_draws_55 : decode cX10_draws 55 = .ok (.aload_n 0, 1) := by decide +kernel
theorem dX10_draws_56 : decode cX10_draws 56 = .ok (.getfield 50, 3) := by decide +kernel
theorem dX10_draws_59 : decode cX10_draws 59 = .ok (.getfield 330, 3) := by decide +kernel
theorem dX10_draws_62 : decode cX10_draws 62 = .ok (.ireturn, 1) := by decide +kernel
theorem dX10_highest_0 : decode cX10_highest 0 = .ok (.iload_n 1, 1) := by decide +kernel
theorem dX10_highest_1 : decode cX10_highest 1 = .ok (.invokestatic 164, 3) := by decide +kernel
theorem dX10_highest_4 : decode cX10_highest 4 = .ok (.ifCond .ne 5, 3) := by decide +kernel
theorem dX10_highest_7 : decode cX10_highest 7 = .ok (.iconst (-1), 1) := by decide +kernel
theorem dX10_highest_8 : decode cX10_highest 8 = .ok (.ireturn, 1) := by decide +kernel
theorem dX10_highest_9 : decode cX10_highest 9 = .ok (.iconst 0, 1) := by decide +kernel
theorem dX10_highest_10 : decode cX10_highest 10 = .ok (.istore_n 2, 1) := by decide +kernel
theorem dX10_highest_11 : decode cX10_highest 11 = .ok (.iconst 1, 1) := by decide +kernel
theorem dX10_highest_12 : decode cX10_highest 12 = .ok (.istore_n 3, 1) := by decide +kernel
theorem dX10_highest_13 : decode cX10_highest 13 = .ok (.iload_n 3, 1) := by decide +kernel
theorem dX10_highest_14 : decode cX10_highest 14 = .ok (.aload_n 0, 1) := by decide +kernel
theorem dX10_highest_15 : decode cX10_highest 15 = .ok (.getfield 21, 3) := by decide +kernel
theorem dX10_highest_18 : decode cX10_highest 18 = .ok (.getfield 293, 3) := by decide +kernel
theorem dX10_highest_21 : decode cX10_highest 21 = .ok (.if_icmp .ge 39, 3) := by decide +kernel
theorem dX10_highest_24 : decode cX10_highest 24 = .ok (.aload_n 0, 1) := by decide +kernel
theorem dX10_highest_25 : decode cX10_highest 25 = .ok (.getfield 30, 3) := by decide +kernel
theorem dX10_highest_28 : decode cX10_highest 28 = .ok (.iload_n 3, 1) := by decide +kernel
theorem dX10_highest_29 : decode cX10_highest 29 = .ok (.iload_n 2, 1) := by decide +kernel
theorem dX10_highest_30 : decode cX10_highest 30 = .ok (.invokevirtual 333, 3) := by decide +kernel
theorem dX10_highest_33 : decode cX10_highest 33 = .ok (.istore 4, 2) := by decide +kernel
theorem dX10_highest_35 : decode cX10_highest 35 = .ok (.iload_n 1, 1) := by decide +kernel
theorem dX10_highest_36 : decode cX10_highest 36 = .ok (.ifCond .ne 11, 3) := by decide +kernel
theorem dX10_highest_39 : decode cX10_highest 39 = .ok (.iload 4, 2) := by decide +kernel
theorem dX10_highest_41 : decode cX10_highest 41 = .ok (.ifCond .le 13, 3) := by decide +kernel
theorem dX10_highest_44 : decode cX10_highest 44 = .ok (.goto 8, 3) := by decide +kernel
theorem dX10_highest_47 : decode cX10_highest 47 = .ok (.iload 4, 2) := by decide +kernel
theorem dX10_highest_49 : decode cX10_highest 49 = .ok (.ifCond .ge 5, 3) := by decide +kernel
theorem dX10_highest_52 : decode cX10_highest 52 = .ok (.iload_n 3, 1) := by decide +kernel
theorem dX10_highest_53 : decode cX10_highest 53 = .ok (.istore_n 2, 1) := by decide +kernel
theorem dX10_highest_54 : decode cX10_highest 54 = .ok (.iinc 3 1, 3) := by decide +kernel
theorem dX10_highest_57 : decode cX10_highest 57 = .ok (.goto (-44), 3) := by decide +kernel
theorem dX10_highest_60 : decode cX10_highest 60 = .ok (.aload_n 0, 1) := by decide +kernel
theorem dX10_highest_61 : decode cX10_highest 61 = .ok (.getfield 21, 3) := by decide +kernel
theorem dX10_highest_64 : decode cX10_highest 64 = .ok (.getfield 293, 3) := by decide +kernel
theorem dX10_highest_67 : decode cX10_highest 67 = .ok (.ifCond .ne 8, 3) := by decide +kernel
theorem dX10_highest_70 : decode cX10_highest 70 = .ok (.bipush (-2), 2) := by decide +kernel
theorem dX10_highest_72 : decode cX10_highest 72 = .ok (.goto 4, 3) := by decide +kernel
theorem dX10_highest_75 : decode cX10_highest 75 = .ok (.iload_n 2, 1) := by decide +kernel
theorem dX10_highest_76 : decode cX10_highest 76 = .ok (.ireturn, 1) := by decide +kernel
theorem dX10_apart_0 : decode cX10_apart 0 = .ok (.aload_n 0, 1) := by decide +kernel
theorem dX10_apart_1 : decode cX10_apart 1 = .ok (.iload_n 1, 1) := by decide +kernel
theorem dX10_apart_2 : decode cX10_apart 2 = .ok (.invokevirtual 124, 3) := by decide +kernel
theorem dX10_apart_5 : decode cX10_apart 5 = .ok (.ifCond .eq 18, 3) := by decide +kernel
theorem dX10_apart_8 : decode cX10_apart 8 = .ok (.aload_n 0, 1) := by decide +kernel
theorem dX10_apart_9 : decode cX10_apart 9 = .ok (.iload_n 2, 1) := by decide +kernel
theorem dX10_apart_10 : decode cX10_apart 10 = .ok (.invokevirtual 124, 3) := by decide +kernel
theorem dX10_apart_13 : decode cX10_apart 13 = .ok (.ifCond .eq 10, 3) := by decide +kernel
theorem dX10_apart_16 : decode cX10_apart 16 = .ok (.iload_n 3, 1) := by decide +kernel
theorem dX10_apart_17 : decode cX10_apart 17 = .ok (.invokestatic 164, 3) := by decide +kernel
theorem dX10_apart_20 : decode cX10_apart 20 = .ok (.ifCond .ne 5, 3) := by decide +kernel
theorem dX10_apart_23 : decode cX10_apart 23 = .ok (.iconst (-1), 1) := by decide +kernel
theorem dX10_apart_24 : decode cX10_apart 24 = .ok (.ireturn, 1) := by decide +kernel
theorem dX10_apart_25 : decode cX10_apart 25 = .ok (.aload_n 0, 1) := by decide +kernel
theorem dX10_apart_26 : decode cX10_apart 26 = .ok (.getfield 30, 3) := by decide +kernel
theorem dX10_apart_29 : decode cX10_apart 29 = .ok (.iload_n 1, 1) := by decide +kernel
theorem dX10_apart_30 : decode cX10_apart 30 = .ok (.iload_n 2, 1) := by decide +kernel
theorem dX10_apart_31 : decode cX10_apart 31 = .ok (.invokevirtual 333, 3) := by decide +kernel
theorem dX10_apart_34 : decode cX10_apart 34 = .ok (.invokestatic 336, 3) := by decide +kernel
theorem dX10_apart_37 : decode cX10_apart 37 = .ok (.i2l, 1) := by decide +kernel
theorem dX10_apart_38 : decode cX10_apart 38 = .ok (.aload_n 0, 1) := by decide +kernel
theorem dX10_apart_39 : decode cX10_apart 39 = .ok (.getfield 21, 3) := by decide +kernel
theorem dX10_apart_42 : decode cX10_apart 42 = .ok (.getfield 135, 3) := by decide +kernel
theorem dX10_apart_45 : decode cX10_apart 45 = .ok (.iload_n 1, 1) := by decide +kernel
theorem dX10_apart_46 : decode cX10_apart 46 = .ok (.iaload, 1) := by decide +kernel
theorem dX10_apart_47 : decode cX10_apart 47 = .ok (.aload_n 0, 1) := by decide +kernel
theorem dX10_apart_48 : decode cX10_apart 48 = .ok (.getfield 21, 3) := by decide +kernel
theorem dX10_apart_51 : decode cX10_apart 51 = .ok (.getfield 135, 3) := by decide +kernel
theorem dX10_apart_54 : decode cX10_apart 54 = .ok (.iload_n 2, 1) := by decide +kernel
theorem dX10_apart_55 : decode cX10_apart 55 = .ok (.iaload, 1) := by decide +kernel
theorem dX10_apart_56 : decode cX10_apart 56 = .ok (.imul, 1) := by decide +kernel
theorem dX10_apart_57 : decode cX10_apart 57 = .ok (.i2l, 1) := by decide +kernel
theorem dX10_apart_58 : decode cX10_apart 58 = .ok (.iload_n 3, 1) := by decide +kernel
theorem dX10_apart_59 : decode cX10_apart 59 = .ok (.invokestatic 170, 3) := by decide +kernel
theorem dX10_apart_62 : decode cX10_apart 62 = .ok (.l2i, 1) := by decide +kernel
theorem dX10_apart_63 : decode cX10_apart 63 = .ok (.ireturn, 1) := by decide +kernel
theorem dX10_still_0 : decode cX10_still 0 = .ok (.iload_n 1, 1) := by decide +kernel
theorem dX10_still_1 : decode cX10_still 1 = .ok (.invokestatic 164, 3) := by decide +kernel
theorem dX10_still_4 : decode cX10_still 4 = .ok (.ifCond .eq 16, 3) := by decide +kernel
theorem dX10_still_7 : decode cX10_still 7 = .ok (.iload_n 1, 1) := by decide +kernel
theorem dX10_still_8 : decode cX10_still 8 = .ok (.iconst 1, 1) := by decide +kernel
theorem dX10_still_9 : decode cX10_still 9 = .ok (.if_icmp .ne 13, 3) := by decide +kernel
theorem dX10_still_12 : decode cX10_still 12 = .ok (.aload_n 0, 1) := by decide +kernel
theorem dX10_still_13 : decode cX10_still 13 = .ok (.iload_n 2, 1) := by decide +kernel
theorem dX10_still_14 : decode cX10_still 14 = .ok (.invokevirtual 124, 3) := by decide +kernel
theorem dX10_still_17 : decode cX10_still 17 = .ok (.ifCond .ne 5, 3) := by decide +kernel
theorem dX10_still_20 : decode cX10_still 20 = .ok (.iconst (-1), 1) := by decide +kernel
theorem dX10_still_21 : decode cX10_still 21 = .ok (.ireturn, 1) := by decide +kernel
theorem dX10_still_22 : decode cX10_still 22 = .ok (.aload_n 0, 1) := by decide +kernel
theorem dX10_still_23 : decode cX10_still 23 = .ok (.getfield 37, 3) := by decide +kernel
theorem dX10_still_26 : decode cX10_still 26 = .ok (.aload_n 0, 1) := by decide +kernel
theorem dX10_still_27 : decode cX10_still 27 = .ok (.getfield 30, 3) := by decide +kernel
theorem dX10_still_30 : decode cX10_still 30 = .ok (.invokevirtual 272, 3) := by decide +kernel
theorem dX10_still_33 : decode cX10_still 33 = .ok (.iconst 0, 1) := by decide +kernel
theorem dX10_still_34 : decode cX10_still 34 = .ok (.istore_n 3, 1) := by decide +kernel
theorem dX10_still_35 : decode cX10_still 35 = .ok (.iload_n 3, 1) := by decide +kernel
theorem dX10_still_36 : decode cX10_still 36 = .ok (.bipush 99, 2) := by decide +kernel
theorem dX10_still_38 : decode cX10_still 38 = .ok (.if_icmp .ge 19, 3) := by decide +kernel
theorem dX10_still_41 : decode cX10_still 41 = .ok (.aload_n 0, 1) := by decide +kernel
theorem dX10_still_42 : decode cX10_still 42 = .ok (.getfield 37, 3) := by decide +kernel
theorem dX10_still_45 : decode cX10_still 45 = .ok (.invokevirtual 339, 3) := by decide +kernel
theorem dX10_still_48 : decode cX10_still 48 = .ok (.ifCond .le 9, 3) := by decide +kernel
theorem dX10_still_51 : decode cX10_still 51 = .ok (.iinc 3 1, 3) := by decide +kernel
theorem dX10_still_54 : decode cX10_still 54 = .ok (.goto (-19), 3) := by decide +kernel
theorem dX10_still_57 : decode cX10_still 57 = .ok (.iload_n 1, 1) := by decide +kernel
theorem dX10_still_58 : decode cX10_still 58 = .ok (.ifCond .ne 7, 3) := by decide +kernel
theorem dX10_still_61 : decode cX10_still 61 = .ok (.iload_n 3, 1) := by decide +kernel
theorem dX10_still_62 : decode cX10_still 62 = .ok (.goto 12, 3) := by decide +kernel
theorem dX10_still_65 : decode cX10_still 65 = .ok (.aload_n 0, 1) := by decide +kernel
theorem dX10_still_66 : decode cX10_still 66 = .ok (.getfield 37, 3) := by decide +kernel
theorem dX10_still_69 : decode cX10_still 69 = .ok (.getfield 141, 3) := by decide +kernel
theorem dX10_still_72 : decode cX10_still 72 = .ok (.iload_n 2, 1) := by decide +kernel
theorem dX10_still_73 : decode cX10_still 73 = .ok (.iaload, 1) := by decide +kernel
theorem dX10_still_74 : decode cX10_still 74 = .ok (.ireturn, 1) := by decide +kernel
theorem dX10_reach_0 : decode cX10_reach 0 = .ok (.aload_n 0, 1) := by decide +kernel
theorem dX10_reach_1 : decode cX10_reach 1 = .ok (.iload_n 1, 1) := by decide +kernel
theorem dX10_reach_2 : decode cX10_reach 2 = .ok (.invokevirtual 124, 3) := by decide +kernel
theorem dX10_reach_5 : decode cX10_reach 5 = .ok (.ifCond .ne 5, 3) := by decide +kernel
theorem dX10_reach_8 : decode cX10_reach 8 = .ok (.iconst (-1), 1) := by decide +kernel
theorem dX10_reach_9 : decode cX10_reach 9 = .ok (.ireturn, 1) := by decide +kernel
theorem dX10_reach_10 : decode cX10_reach 10 = .ok (.iconst 1, 1) := by decide +kernel
theorem dX10_reach_11 : decode cX10_reach 11 = .ok (.iload_n 1, 1) := by decide +kernel
theorem dX10_reach_12 : decode cX10_reach 12 = .ok (.ishl, 1) := by decide +kernel
theorem dX10_reach_13 : decode cX10_reach 13 = .ok (.istore_n 2, 1) := by decide +kernel
theorem dX10_reach_14 : decode cX10_reach 14 = .ok (.iconst 1, 1) := by decide +kernel
theorem dX10_reach_15 : decode cX10_reach 15 = .ok (.istore_n 3, 1) := by decide +kernel
theorem dX10_reach_16 : decode cX10_reach 16 = .ok (.iload_n 3, 1) := by decide +kernel
theorem dX10_reach_17 : decode cX10_reach 17 = .ok (.aload_n 0, 1) := by decide +kernel
theorem dX10_reach_18 : decode cX10_reach 18 = .ok (.getfield 21, 3) := by decide +kernel
theorem dX10_reach_21 : decode cX10_reach 21 = .ok (.getfield 293, 3) := by decide +kernel
theorem dX10_reach_24 : decode cX10_reach 24 = .ok (.if_icmp .ge 27, 3) := by decide +kernel
theorem dX10_reach_27 : decode cX10_reach 27 = .ok (.iload_n 2, 1) := by decide +kernel
theorem dX10_reach_28 : decode cX10_reach 28 = .ok (.aload_n 0, 1) := by decide +kernel
theorem dX10_reach_29 : decode cX10_reach 29 = .ok (.getfield 21, 3) := by decide +kernel
theorem dX10_reach_32 : decode cX10_reach 32 = .ok (.iload_n 2, 1) := by decide +kernel
theorem dX10_reach_33 : decode cX10_reach 33 = .ok (.aload_n 0, 1) := by decide +kernel
theorem dX10_reach_34 : decode cX10_reach 34 = .ok (.getfield 30, 3) := by decide +kernel
theorem dX10_reach_37 : decode cX10_reach 37 = .ok (.getfield 193, 3) := by decide +kernel
theorem dX10_reach_40 : decode cX10_reach 40 = .ok (.invokevirtual 342, 3) := by decide +kernel
theorem dX10_reach_43 : decode cX10_reach 43 = .ok (.ior, 1) := by decide +kernel
theorem dX10_reach_44 : decode cX10_reach 44 = .ok (.istore_n 2, 1) := by decide +kernel
theorem dX10_reach_45 : decode cX10_reach 45 = .ok (.iinc 3 1, 3) := by decide +kernel
theorem dX10_reach_48 : decode cX10_reach 48 = .ok (.goto (-32), 3) := by decide +kernel
theorem dX10_reach_51 : decode cX10_reach 51 = .ok (.iload_n 2, 1) := by decide +kernel
theorem dX10_reach_52 : decode cX10_reach 52 = .ok (.ireturn, 1) := by decide +kernel
theorem dX10_pass_0 : decode cX10_pass 0 = .ok (.aload_n 0, 1) := by decide +kernel
theorem dX10_pass_1 : decode cX10_pass 1 = .ok (.iload_n 1, 1) := by decide +kernel
theorem dX10_pass_2 : decode cX10_pass 2 = .ok (.invokevirtual 124, 3) := by decide +kernel
theorem dX10_pass_5 : decode cX10_pass 5 = .ok (.ifCond .eq 16, 3) := by decide +kernel
theorem dX10_pass_8 : decode cX10_pass 8 = .ok (.aload_n 0, 1) := by decide +kernel
theorem dX10_pass_9 : decode cX10_pass 9 = .ok (.iload_n 2, 1) := by decide +kernel
theorem dX10_pass_10 : decode cX10_pass 10 = .ok (.invokevirtual 124, 3) := by decide +kernel
theorem dX10_pass_13 : decode cX10_pass 13 = .ok (.ifCond .eq 8, 3) := by decide +kernel
theorem dX10_pass_16 : decode cX10_pass 16 = .ok (.iload_n 1, 1) := by decide +kernel
theorem dX10_pass_17 : decode cX10_pass 17 = .ok (.iload_n 2, 1) := by decide +kernel
theorem dX10_pass_18 : decode cX10_pass 18 = .ok (.if_icmp .ne 5, 3) := by decide +kernel
theorem dX10_pass_21 : decode cX10_pass 21 = .ok (.iconst (-1), 1) := by decide +kernel
theorem dX10_pass_22 : decode cX10_pass 22 = .ok (.ireturn, 1) := by decide +kernel
theorem dX10_pass_23 : decode cX10_pass 23 = .ok (.ldc_w 345, 3) := by decide +kernel
theorem dX10_pass_26 : decode cX10_pass 26 = .ok (.istore_n 3, 1) := by decide +kernel
theorem dX10_pass_27 : decode cX10_pass 27 = .ok (.iconst 0, 1) := by decide +kernel
theorem dX10_pass_28 : decode cX10_pass 28 = .ok (.istore 4, 2) := by decide +kernel
theorem dX10_pass_30 : decode cX10_pass 30 = .ok (.iload 4, 2) := by decide +kernel
theorem dX10_pass_32 : decode cX10_pass 32 = .ok (.iconst 1, 1) := by decide +kernel
theorem dX10_pass_33 : decode cX10_pass 33 = .ok (.aload_n 0, 1) := by decide +kernel
theorem dX10_pass_34 : decode cX10_pass 34 = .ok (.getfield 21, 3) := by decide +kernel
theorem dX10_pass_37 : decode cX10_pass 37 = .ok (.getfield 293, 3) := by decide +kernel
theorem dX10_pass_40 : decode cX10_pass 40 = .ok (.ishl, 1) := by decide +kernel
theorem dX10_pass_41 : decode cX10_pass 41 = .ok (.if_icmp .ge 49, 3) := by decide +kernel
theorem dX10_pass_44 : decode cX10_pass 44 = .ok (.iload 4, 2) := by decide +kernel
theorem dX10_pass_46 : decode cX10_pass 46 = .ok (.iload_n 1, 1) := by decide +kernel
theorem dX10_pass_47 : decode cX10_pass 47 = .ok (.ishr, 1) := by decide +kernel
theorem dX10_pass_48 : decode cX10_pass 48 = .ok (.iconst 1, 1) := by decide +kernel
theorem dX10_pass_49 : decode cX10_pass 49 = .ok (.iand, 1) := by decide +kernel
theorem dX10_pass_50 : decode cX10_pass 50 = .ok (.iconst 1, 1) := by decide +kernel
theorem dX10_pass_51 : decode cX10_pass 51 = .ok (.if_icmp .ne 33, 3) := by decide +kernel
theorem dX10_pass_54 : decode cX10_pass 54 = .ok (.iload 4, 2) := by decide +kernel
theorem dX10_pass_56 : decode cX10_pass 56 = .ok (.iload_n 2, 1) := by decide +kernel
theorem dX10_pass_57 : decode cX10_pass 57 = .ok (.ishr, 1) := by decide +kernel
theorem dX10_pass_58 : decode cX10_pass 58 = .ok (.iconst 1, 1) := by decide +kernel
theorem dX10_pass_59 : decode cX10_pass 59 = .ok (.iand, 1) := by decide +kernel
theorem dX10_pass_60 : decode cX10_pass 60 = .ok (.ifCond .ne 24, 3) := by decide +kernel
theorem dX10_pass_63 : decode cX10_pass 63 = .ok (.iload_n 3, 1) := by decide +kernel
theorem dX10_pass_64 : decode cX10_pass 64 = .ok (.aload_n 0, 1) := by decide +kernel
theorem dX10_pass_65 : decode cX10_pass 65 = .ok (.getfield 21, 3) := by decide +kernel
theorem dX10_pass_68 : decode cX10_pass 68 = .ok (.iload 4, 2) := by decide +kernel
theorem dX10_pass_70 : decode cX10_pass 70 = .ok (.aload_n 0, 1) := by decide +kernel
theorem dX10_pass_71 : decode cX10_pass 71 = .ok (.getfield 30, 3) := by decide +kernel
theorem dX10_pass_74 : decode cX10_pass 74 = .ok (.getfield 193, 3) := by decide +kernel
theorem dX10_pass_77 : decode cX10_pass 77 = .ok (.invokevirtual 346, 3) := by decide +kernel
theorem dX10_pass_80 : decode cX10_pass 80 = .ok (.invokestatic 349, 3) := by decide +kernel
theorem dX10_pass_83 : decode cX10_pass 83 = .ok (.istore_n 3, 1) := by decide +kernel
theorem dX10_pass_84 : decode cX10_pass 84 = .ok (.iinc 4 1, 3) := by decide +kernel
theorem dX10_pass_87 : decode cX10_pass 87 = .ok (.goto (-57), 3) := by decide +kernel
theorem dX10_pass_90 : decode cX10_pass 90 = .ok (.iload_n 3, 1) := by decide +kernel
theorem dX10_pass_91 : decode cX10_pass 91 = .ok (.ireturn, 1) := by decide +kernel
theorem dX10_lockfuls_0 : decode cX10_lockfuls 0 = .ok (.aload_n 0, 1) := by decide +kernel
theorem dX10_lockfuls_1 : decode cX10_lockfuls 1 = .ok (.iload_n 1, 1) := by decide +kernel
theorem dX10_lockfuls_2 : decode cX10_lockfuls 2 = .ok (.invokevirtual 124, 3) := by decide +kernel
theorem dX10_lockfuls_5 : decode cX10_lockfuls 5 = .ok (.ifCond .eq 11, 3) := by decide +kernel
theorem dX10_lockfuls_8 : decode cX10_lockfuls 8 = .ok (.aload_n 0, 1) := by decide +kernel
theorem dX10_lockfuls_9 : decode cX10_lockfuls 9 = .ok (.iload_n 2, 1) := by decide +kernel
theorem dX10_lockfuls_10 : decode cX10_lockfuls 10 = .ok (.invokevirtual 196, 3) := by decide +kernel
theorem dX10_lockfuls_13 : decode cX10_lockfuls 13 = .ok (.ifCond .ne 5, 3) := by decide +kernel
theorem dX10_lockfuls_16 : decode cX10_lockfuls 16 = .ok (.iconst (-1), 1) := by decide +kernel
theorem dX10_lockfuls_17 : decode cX10_lockfuls 17 = .ok (.ireturn, 1) := by decide +kernel
theorem dX10_lockfuls_18 : decode cX10_lockfuls 18 = .ok (.aload_n 0, 1) := by decide +kernel
theorem dX10_lockfuls_19 : decode cX10_lockfuls 19 = .ok (.getfield 21, 3) := by decide +kernel
theorem dX10_lockfuls_22 : decode cX10_lockfuls 22 = .ok (.iload_n 2, 1) := by decide +kernel
theorem dX10_lockfuls_23 : decode cX10_lockfuls 23 = .ok (.invokevirtual 317, 3) := by decide +kernel
theorem dX10_lockfuls_26 : decode cX10_lockfuls 26 = .ok (.istore_n 3, 1) := by decide +kernel
theorem dX10_lockfuls_27 : decode cX10_lockfuls 27 = .ok (.iload_n 3, 1) := by decide +kernel
theorem dX10_lockfuls_28 : decode cX10_lockfuls 28 = .ok (.ifCond .le 17, 3) := by decide +kernel
theorem dX10_lockfuls_31 : decode cX10_lockfuls 31 = .ok (.aload_n 0, 1) := by decide +kernel
theorem dX10_lockfuls_32 : decode cX10_lockfuls 32 = .ok (.getfield 30, 3) := by decide +kernel
theorem dX10_lockfuls_35 : decode cX10_lockfuls 35 = .ok (.getfield 141, 3) := by decide +kernel
theorem dX10_lockfuls_38 : decode cX10_lockfuls 38 = .ok (.iload_n 1, 1) := by decide +kernel
theorem dX10_lockfuls_39 : decode cX10_lockfuls 39 = .ok (.iaload, 1) := by decide +kernel
theorem dX10_lockfuls_40 : decode cX10_lockfuls 40 = .ok (.iload_n 3, 1) := by decide +kernel
theorem dX10_lockfuls_41 : decode cX10_lockfuls 41 = .ok (.idiv, 1) := by decide +kernel
theorem dX10_lockfuls_42 : decode cX10_lockfuls 42 = .ok (.goto 6, 3) := by decide +kernel
theorem dX10_lockfuls_45 : decode cX10_lockfuls 45 = .ok (.sipush 999, 3) := by decide +kernel
theorem dX10_lockfuls_48 : decode cX10_lockfuls 48 = .ok (.ireturn, 1) := by decide +kernel
theorem dX10_game_0 : decode cX10_game 0 = .ok (.aload_n 0, 1) := by decide +kernel
theorem dX10_game_1 : decode cX10_game 1 = .ok (.iload_n 1, 1) := by decide +kernel
theorem dX10_game_2 : decode cX10_game 2 = .ok (.invokevirtual 124, 3) := by decide +kernel
theorem dX10_game_5 : decode cX10_game 5 = .ok (.ifCond .eq 17, 3) := by decide +kernel
theorem dX10_game_8 : decode cX10_game 8 = .ok (.iload_n 2, 1) := by decide +kernel
theorem dX10_game_9 : decode cX10_game 9 = .ok (.invokestatic 306, 3) := by decide +kernel
theorem dX10_game_12 : decode cX10_game 12 = .ok (.ifCond .eq 10, 3) := by decide +kernel
theorem dX10_game_15 : decode cX10_game 15 = .ok (.iload_n 3, 1) := by decide +kernel
theorem dX10_game_16 : decode cX10_game 16 = .ok (.invokestatic 164, 3) := by decide +kernel
theorem dX10_game_19 : decode cX10_game 19 = .ok (.ifCond .ne 5, 3) := by decide +kernel
theorem dX10_game_22 : decode cX10_game 22 = .ok (.iconst (-1), 1) := by decide +kernel
theorem dX10_game_23 : decode cX10_game 23 = .ok (.ireturn, 1) := by decide +kernel
theorem dX10_game_24 : decode cX10_game 24 = .ok (.aload_n 0, 1) := by decide +kernel
theorem dX10_game_25 : decode cX10_game 25 = .ok (.getfield 30, 3) := by decide +kernel
theorem dX10_game_28 : decode cX10_game 28 = .ok (.getfield 141, 3) := by decide +kernel
theorem dX10_game_31 : decode cX10_game 31 = .ok (.iload_n 1, 1) := by decide +kernel
theorem dX10_game_32 : decode cX10_game 32 = .ok (.iaload, 1) := by decide +kernel
theorem dX10_game_33 : decode cX10_game 33 = .ok (.aload_n 0, 1) := by decide +kernel
theorem dX10_game_34 : decode cX10_game 34 = .ok (.getfield 21, 3) := by decide +kernel
theorem dX10_game_37 : decode cX10_game 37 = .ok (.iload_n 1, 1) := by decide +kernel
theorem dX10_game_38 : decode cX10_game 38 = .ok (.iload_n 2, 1) := by decide +kernel
theorem dX10_game_39 : decode cX10_game 39 = .ok (.invokevirtual 309, 3) := by decide +kernel
theorem dX10_game_42 : decode cX10_game 42 = .ok (.isub, 1) := by decide +kernel
theorem dX10_game_43 : decode cX10_game 43 = .ok (.istore 4, 2) := by decide +kernel
theorem dX10_game_45 : decode cX10_game 45 = .ok (.iload 4, 2) := by decide +kernel
theorem dX10_game_47 : decode cX10_game 47 = .ok (.ifCond .ge 14, 3) := by decide +kernel
theorem dX10_game_50 : decode cX10_game 50 = .ok (.iload_n 3, 1) := by decide +kernel
theorem dX10_game_51 : decode cX10_game 51 = .ok (.ifCond .ne 7, 3) := by decide +kernel
theorem dX10_game_54 : decode cX10_game 54 = .ok (.iconst 2, 1) := by decide +kernel
theorem dX10_game_55 : decode cX10_game 55 = .ok (.goto 5, 3) := by decide +kernel
theorem dX10_game_58 : decode cX10_game 58 = .ok (.bipush (-2), 2) := by decide +kernel
theorem dX10_game_60 : decode cX10_game 60 = .ok (.ireturn, 1) := by decide +kernel
theorem dX10_game_61 : decode cX10_game 61 = .ok (.iload 4, 2) := by decide +kernel
theorem dX10_game_63 : decode cX10_game 63 = .ok (.iconst 4, 1) := by decide +kernel
theorem dX10_game_64 : decode cX10_game 64 = .ok (.irem, 1) := by decide +kernel
theorem dX10_game_65 : decode cX10_game 65 = .ok (.istore 5, 2) := by decide +kernel
theorem dX10_game_67 : decode cX10_game 67 = .ok (.iload_n 3, 1) := by decide +kernel
theorem dX10_game_68 : decode cX10_game 68 = .ok (.ifCond .ne 14, 3) := by decide +kernel
theorem dX10_game_71 : decode cX10_game 71 = .ok (.iload 5, 2) := by decide +kernel
theorem dX10_game_73 : decode cX10_game 73 = .ok (.ifCond .le 7, 3) := by decide +kernel
theorem dX10_game_76 : decode cX10_game 76 = .ok (.iconst 0, 1) := by decide +kernel
theorem dX10_game_77 : decode cX10_game 77 = .ok (.goto 4, 3) := by decide +kernel
theorem dX10_game_80 : decode cX10_game 80 = .ok (.iconst 1, 1) := by decide +kernel
theorem dX10_game_81 : decode cX10_game 81 = .ok (.ireturn, 1) := by decide +kernel
theorem dX10_game_82 : decode cX10_game 82 = .ok (.iload 5, 2) := by decide +kernel
theorem dX10_game_84 : decode cX10_game 84 = .ok (.ifCond .le 8, 3) := by decide +kernel
theorem dX10_game_87 : decode cX10_game 87 = .ok (.iload 5, 2) := by decide +kernel
theorem dX10_game_89 : decode cX10_game 89 = .ok (.goto 5, 3) := by decide +kernel
theorem dX10_game_92 : decode cX10_game 92 = .ok (.bipush (-2), 2) := by decide +kernel
theorem dX10_game_94 : decode cX10_game 94 = .ok (.ireturn, 1) := by decide +kernel
theorem dX10_rests_0 : decode cX10_rests 0 = .ok (.aload_n 0, 1) := by decide +kernel
theorem dX10_rests_1 : decode cX10_rests 1 = .ok (.iload_n 1, 1) := by decide +kernel
theorem dX10_rests_2 : decode cX10_rests 2 = .ok (.invokevirtual 124, 3) := by decide +kernel
theorem dX10_rests_5 : decode cX10_rests 5 = .ok (.ifCond .eq 16, 3) := by decide +kernel
theorem dX10_rests_8 : decode cX10_rests 8 = .ok (.aload_n 0, 1) := by decide +kernel
theorem dX10_rests_9 : decode cX10_rests 9 = .ok (.iload_n 2, 1) := by decide +kernel
theorem dX10_rests_10 : decode cX10_rests 10 = .ok (.invokevirtual 124, 3) := by decide +kernel
theorem dX10_rests_13 : decode cX10_rests 13 = .ok (.ifCond .eq 8, 3) := by decide +kernel
theorem dX10_rests_16 : decode cX10_rests 16 = .ok (.iload_n 1, 1) := by decide +kernel
theorem dX10_rests_17 : decode cX10_rests 17 = .ok (.iload_n 2, 1) := by decide +kernel
theorem dX10_rests_18 : decode cX10_rests 18 = .ok (.if_icmp .ne 5, 3) := by decide +kernel
theorem dX10_rests_21 : decode cX10_rests 21 = .ok (.iconst (-1), 1) := by decide +kernel
theorem dX10_rests_22 : decode cX10_rests 22 = .ok (.ireturn, 1) := by decide +kernel
theorem dX10_rests_23 : decode cX10_rests 23 = .ok (.iconst 0, 1) := by decide +kernel
theorem dX10_rests_24 : decode cX10_rests 24 = .ok (.istore_n 3, 1) := by decide +kernel
theorem dX10_rests_25 : decode cX10_rests 25 = .ok (.iconst 0, 1) := by decide +kernel
theorem dX10_rests_26 : decode cX10_rests 26 = .ok (.istore 4, 2) := by decide +kernel
theorem dX10_rests_28 : decode cX10_rests 28 = .ok (.iload 4, 2) := by decide +kernel
theorem dX10_rests_30 : decode cX10_rests 30 = .ok (.iconst 4, 1) := by decide +kernel
theorem dX10_rests_31 : decode cX10_rests 31 = .ok (.if_icmp .ge 23, 3) := by decide +kernel
theorem dX10_rests_34 : decode cX10_rests 34 = .ok (.aload_n 0, 1) := by decide +kernel
theorem dX10_rests_35 : decode cX10_rests 35 = .ok (.iload_n 1, 1) := by decide +kernel
theorem dX10_rests_36 : decode cX10_rests 36 = .ok (.iload_n 2, 1) := by decide +kernel
theorem dX10_rests_37 : decode cX10_rests 37 = .ok (.iload 4, 2) := by decide +kernel
theorem dX10_rests_39 : decode cX10_rests 39 = .ok (.invokevirtual 352, 3) := by decide +kernel
theorem dX10_rests_42 : decode cX10_rests 42 = .ok (.ifCond .eq 6, 3) := by decide +kernel
theorem dX10_rests_45 : decode cX10_rests 45 = .ok (.iinc 3 1, 3) := by decide +kernel
theorem dX10_rests_48 : decode cX10_rests 48 = .ok (.iinc 4 1, 3) := by decide +kernel
theorem dX10_rests_51 : decode cX10_rests 51 = .ok (.goto (-23), 3) := by decide +kernel
theorem dX10_rests_54 : decode cX10_rests 54 = .ok (.iload_n 3, 1) := by decide +kernel
theorem dX10_rests_55 : decode cX10_rests 55 = .ok (.ireturn, 1) := by decide +kernel
theorem dX10_rest_0 : decode cX10_rest 0 = .ok (.aload_n 0, 1) := by decide +kernel
theorem dX10_rest_1 : decode cX10_rest 1 = .ok (.iload_n 1, 1) := by decide +kernel
theorem dX10_rest_2 : decode cX10_rest 2 = .ok (.invokevirtual 124, 3) := by decide +kernel
theorem dX10_rest_5 : decode cX10_rest 5 = .ok (.ifCond .eq 20, 3) := by decide +kernel
theorem dX10_rest_8 : decode cX10_rest 8 = .ok (.aload_n 0, 1) := by decide +kernel
theorem dX10_rest_9 : decode cX10_rest 9 = .ok (.iload_n 2, 1) := by decide +kernel
theorem dX10_rest_10 : decode cX10_rest 10 = .ok (.invokevirtual 124, 3) := by decide +kernel
theorem dX10_rest_13 : decode cX10_rest 13 = .ok (.ifCond .eq 12, 3) := by decide +kernel
theorem dX10_rest_16 : decode cX10_rest 16 = .ok (.iload_n 1, 1) := by decide +kernel
theorem dX10_rest_17 : decode cX10_rest 17 = .ok (.iload_n 2, 1) := by decide +kernel
theorem dX10_rest_18 : decode cX10_rest 18 = .ok (.if_icmp .eq 7, 3) := by decide +kernel
theorem dX10_rest_21 : decode cX10_rest 21 = .ok (.iload_n 3, 1) := by decide +kernel
theorem dX10_rest_22 : decode cX10_rest 22 = .ok (.ifCond .ge 5, 3) := by decide +kernel
theorem dX10_rest_25 : decode cX10_rest 25 = .ok (.iconst (-1), 1) := by decide +kernel
theorem dX10_rest_26 : decode cX10_rest 26 = .ok (.ireturn, 1) := by decide +kernel
theorem dX10_rest_27 : decode cX10_rest 27 = .ok (.iconst 0, 1) := by decide +kernel
theorem dX10_rest_28 : decode cX10_rest 28 = .ok (.istore 4, 2) := by decide +kernel
theorem dX10_rest_30 : decode cX10_rest 30 = .ok (.iconst 0, 1) := by decide +kernel
theorem dX10_rest_31 : decode cX10_rest 31 = .ok (.istore 5, 2) := by decide +kernel
theorem dX10_rest_33 : decode cX10_rest 33 = .ok (.iload 5, 2) := by decide +kernel
theorem dX10_rest_35 : decode cX10_rest 35 = .ok (.iconst 4, 1) := by decide +kernel
theorem dX10_rest_36 : decode cX10_rest 36 = .ok (.if_icmp .ge 42, 3) := by decide +kernel
theorem dX10_rest_39 : decode cX10_rest 39 = .ok (.aload_n 0, 1) := by decide +kernel
theorem dX10_rest_40 : decode cX10_rest 40 = .ok (.iload_n 1, 1) := by decide +kernel
theorem dX10_rest_41 : decode cX10_rest 41 = .ok (.iload_n 2, 1) := by decide +kernel
theorem dX10_rest_42 : decode cX10_rest 42 = .ok (.iload 5, 2) := by decide +kernel
theorem dX10_rest_44 : decode cX10_rest 44 = .ok (.invokevirtual 352, 3) := by decide +kernel
theorem dX10_rest_47 : decode cX10_rest 47 = .ok (.ifCond .eq 25, 3) := by decide +kernel
theorem dX10_rest_50 : decode cX10_rest 50 = .ok (.iload 4, 2) := by decide +kernel
theorem dX10_rest_52 : decode cX10_rest 52 = .ok (.iload_n 3, 1) := by decide +kernel
theorem dX10_rest_53 : decode cX10_rest 53 = .ok (.if_icmp .ne 16, 3) := by decide +kernel
theorem dX10_rest_56 : decode cX10_rest 56 = .ok (.iload 5, 2) := by decide +kernel
theorem dX10_rest_58 : decode cX10_rest 58 = .ok (.iconst 2, 1) := by decide +kernel
theorem dX10_rest_59 : decode cX10_rest 59 = .ok (.idiv, 1) := by decide +kernel
theorem dX10_rest_60 : decode cX10_rest 60 = .ok (.bipush 10, 2) := by decide +kernel
theorem dX10_rest_62 : decode cX10_rest 62 = .ok (.imul, 1) := by decide +kernel
theorem dX10_rest_63 : decode cX10_rest 63 = .ok (.iload 5, 2) := by decide +kernel
theorem dX10_rest_65 : decode cX10_rest 65 = .ok (.iconst 2, 1) := by decide +kernel
theorem dX10_rest_66 : decode cX10_rest 66 = .ok (.irem, 1) := by decide +kernel
theorem dX10_rest_67 : decode cX10_rest 67 = .ok (.iadd, 1) := by decide +kernel
theorem dX10_rest_68 : decode cX10_rest 68 = .ok (.ireturn, 1) := by decide +kernel
theorem dX10_rest_69 : decode cX10_rest 69 = .ok (.iinc 4 1, 3) := by decide +kernel
theorem dX10_rest_72 : decode cX10_rest 72 = .ok (.iinc 5 1, 3) := by decide +kernel
theorem dX10_rest_75 : decode cX10_rest 75 = .ok (.goto (-42), 3) := by decide +kernel
theorem dX10_rest_78 : decode cX10_rest 78 = .ok (.bipush (-2), 2) := by decide +kernel
theorem dX10_rest_80 : decode cX10_rest 80 = .ok (.ireturn, 1) := by decide +kernel
theorem dX10_holds_0 : decode cX10_holds 0 = .ok (.iload_n 1, 1) := by decide +kernel
theorem dX10_holds_1 : decode cX10_holds 1 = .ok (.ifCond .lt 16, 3) := by decide +kernel
theorem dX10_holds_4 : decode cX10_holds 4 = .ok (.iload_n 1, 1) := by decide +kernel
theorem dX10_holds_5 : decode cX10_holds 5 = .ok (.bipush 6, 2) := by decide +kernel
theorem dX10_holds_7 : decode cX10_holds 7 = .ok (.if_icmp .gt 10, 3) := by decide +kernel
theorem dX10_holds_10 : decode cX10_holds 10 = .ok (.iload_n 2, 1) := by decide +kernel
theorem dX10_holds_11 : decode cX10_holds 11 = .ok (.invokestatic 164, 3) := by decide +kernel
theorem dX10_holds_14 : decode cX10_holds 14 = .ok (.ifCond .ne 7, 3) := by decide +kernel
theorem dX10_holds_17 : decode cX10_holds 17 = .ok (.ldc2_w 356, 3) := by decide +kernel
theorem dX10_holds_20 : decode cX10_holds 20 = .ok (.lreturn, 1) := by decide +kernel
theorem dX10_holds_21 : decode cX10_holds 21 = .ok (.lconst 1, 1) := by decide +kernel
theorem dX10_holds_22 : decode cX10_holds 22 = .ok (.lstore_n 3, 1) := by decide +kernel
theorem dX10_holds_23 : decode cX10_holds 23 = .ok (.lconst 1, 1) := by decide +kernel
theorem dX10_holds_24 : decode cX10_holds 24 = .ok (.lstore 5, 2) := by decide +kernel
theorem dX10_holds_26 : decode cX10_holds 26 = .ok (.iconst 0, 1) := by decide +kernel
theorem dX10_holds_27 : decode cX10_holds 27 = .ok (.istore 7, 2) := by decide +kernel
theorem dX10_holds_29 : decode cX10_holds 29 = .ok (.iload 7, 2) := by decide +kernel
theorem dX10_holds_31 : decode cX10_holds 31 = .ok (.iload_n 1, 1) := by decide +kernel
theorem dX10_holds_32 : decode cX10_holds 32 = .ok (.if_icmp .ge 31, 3) := by decide +kernel
theorem dX10_holds_35 : decode cX10_holds 35 = .ok (.lload_n 3, 1) := by decide +kernel
theorem dX10_holds_36 : decode cX10_holds 36 = .ok (.bipush 100, 2) := by decide +kernel
theorem dX10_holds_38 : decode cX10_holds 38 = .ok (.aload_n 0, 1) := by decide +kernel
theorem dX10_holds_39 : decode cX10_holds 39 = .ok (.getfield 21, 3) := by decide +kernel
theorem dX10_holds_42 : decode cX10_holds 42 = .ok (.getfield 358, 3) := by decide +kernel
theorem dX10_holds_45 : decode cX10_holds 45 = .ok (.isub, 1) := by decide +kernel
theorem dX10_holds_46 : decode cX10_holds 46 = .ok (.i2l, 1) := by decide +kernel
theorem dX10_holds_47 : decode cX10_holds 47 = .ok (.lmul, 1) := by decide +kernel
theorem dX10_holds_48 : decode cX10_holds 48 = .ok (.lstore_n 3, 1) := by decide +kernel
theorem dX10_holds_49 : decode cX10_holds 49 = .ok (.lload 5, 2) := by decide +kernel
theorem dX10_holds_51 : decode cX10_holds 51 = .ok (.ldc2_w 361, 3) := by decide +kernel
theorem dX10_holds_54 : decode cX10_holds 54 = .ok (.lmul, 1) := by decide +kernel
theorem dX10_holds_55 : decode cX10_holds 55 = .ok (.lstore 5, 2) := by decide +kernel
theorem dX10_holds_57 : decode cX10_holds 57 = .ok (.iinc 7 1, 3) := by decide +kernel
theorem dX10_holds_60 : decode cX10_holds 60 = .ok (.goto (-31), 3) := by decide +kernel
theorem dX10_holds_63 : decode cX10_holds 63 = .ok (.lload_n 3, 1) := by decide +kernel
theorem dX10_holds_64 : decode cX10_holds 64 = .ok (.lload 5, 2) := by decide +kernel
theorem dX10_holds_66 : decode cX10_holds 66 = .ok (.iload_n 2, 1) := by decide +kernel
theorem dX10_holds_67 : decode cX10_holds 67 = .ok (.invokestatic 170, 3) := by decide +kernel
theorem dX10_holds_70 : decode cX10_holds 70 = .ok (.lreturn, 1) := by decide +kernel
theorem dX10_see_0 : decode cX10_see 0 = .ok (.iload_n 1, 1) := by decide +kernel
theorem dX10_see_1 : decode cX10_see 1 = .ok (.iconst 1, 1) := by decide +kernel
theorem dX10_see_2 : decode cX10_see 2 = .ok (.if_icmp .lt 38, 3) := by decide +kernel
theorem dX10_see_5 : decode cX10_see 5 = .ok (.iload_n 1, 1) := by decide +kernel
theorem dX10_see_6 : decode cX10_see 6 = .ok (.bipush 60, 2) := by decide +kernel
theorem dX10_see_8 : decode cX10_see 8 = .ok (.if_icmp .gt 32, 3) := by decide +kernel
theorem dX10_see_11 : decode cX10_see 11 = .ok (.aload_n 0, 1) := by decide +kernel
theorem dX10_see_12 : decode cX10_see 12 = .ok (.iload_n 2, 1) := by decide +kernel
theorem dX10_see_13 : decode cX10_see 13 = .ok (.invokevirtual 124, 3) := by decide +kernel
theorem dX10_see_16 : decode cX10_see 16 = .ok (.ifCond .eq 24, 3) := by decide +kernel
theorem dX10_see_19 : decode cX10_see 19 = .ok (.iload_n 3, 1) := by decide +kernel
theorem dX10_see_20 : decode cX10_see 20 = .ok (.ifCond .lt 20, 3) := by decide +kernel
theorem dX10_see_23 : decode cX10_see 23 = .ok (.iload_n 3, 1) := by decide +kernel
theorem dX10_see_24 : decode cX10_see 24 = .ok (.sipush 9999, 3) := by decide +kernel
theorem dX10_see_27 : decode cX10_see 27 = .ok (.if_icmp .gt 13, 3) := by decide +kernel
theorem dX10_see_30 : decode cX10_see 30 = .ok (.aload_n 0, 1) := by decide +kernel
theorem dX10_see_31 : decode cX10_see 31 = .ok (.getfield 57, 3) := by decide +kernel
theorem dX10_see_34 : decode cX10_see 34 = .ok (.invokevirtual 363, 3) := by decide +kernel
theorem dX10_see_37 : decode cX10_see 37 = .ok (.ifCond .eq 5, 3) := by decide +kernel
theorem dX10_see_40 : decode cX10_see 40 = .ok (.iconst (-1), 1) := by decide +kernel
theorem dX10_see_41 : decode cX10_see 41 = .ok (.ireturn, 1) := by decide +kernel
theorem dX10_see_42 : decode cX10_see 42 = .ok (.aload_n 0, 1) := by decide +kernel
theorem dX10_see_43 : decode cX10_see 43 = .ok (.getfield 57, 3) := by decide +kernel
theorem dX10_see_46 : decode cX10_see 46 = .ok (.iload 4, 2) := by decide +kernel
theorem dX10_see_48 : decode cX10_see 48 = .ok (.ifCond .eq 7, 3) := by decide +kernel
theorem dX10_see_51 : decode cX10_see 51 = .ok (.iconst 1, 1) := by decide +kernel
theorem dX10_see_52 : decode cX10_see 52 = .ok (.goto 4, 3) := by decide +kernel
theorem dX10_see_55 : decode cX10_see 55 = .ok (.iconst 0, 1) := by decide +kernel
theorem dX10_see_56 : decode cX10_see 56 = .ok (.iload_n 1, 1) := by decide +kernel
theorem dX10_see_57 : decode cX10_see 57 = .ok (.iload_n 2, 1) := by decide +kernel
theorem dX10_see_58 : decode cX10_see 58 = .ok (.iload_n 3, 1) := by decide +kernel
theorem dX10_see_59 : decode cX10_see 59 = .ok (.invokevirtual 366, 3) := by decide +kernel
theorem dX10_see_62 : decode cX10_see 62 = .ok (.ireturn, 1) := by decide +kernel
theorem dX10_strike_0 : decode cX10_strike 0 = .ok (.iload_n 1, 1) := by decide +kernel
theorem dX10_strike_1 : decode cX10_strike 1 = .ok (.ifCond .lt 24, 3) := by decide +kernel
theorem dX10_strike_4 : decode cX10_strike 4 = .ok (.iload_n 1, 1) := by decide +kernel
theorem dX10_strike_5 : decode cX10_strike 5 = .ok (.aload_n 0, 1) := by decide +kernel
theorem dX10_strike_6 : decode cX10_strike 6 = .ok (.getfield 57, 3) := by decide +kernel
theorem dX10_strike_9 : decode cX10_strike 9 = .ok (.getfield 370, 3) := by decide +kernel
theorem dX10_strike_12 : decode cX10_strike 12 = .ok (.if_icmp .ge 13, 3) := by decide +kernel
theorem dX10_strike_15 : decode cX10_strike 15 = .ok (.aload_n 0, 1) := by decide +kernel
theorem dX10_strike_16 : decode cX10_strike 16 = .ok (.getfield 57, 3) := by decide +kernel
theorem dX10_strike_19 : decode cX10_strike 19 = .ok (.invokevirtual 363, 3) := by decide +kernel
theorem dX10_strike_22 : decode cX10_strike 22 = .ok (.ifCond .eq 5, 3) := by decide +kernel
theorem dX10_strike_25 : decode cX10_strike 25 = .ok (.iconst (-1), 1) := by decide +kernel
theorem dX10_strike_26 : decode cX10_strike 26 = .ok (.ireturn, 1) := by decide +kernel
theorem dX10_strike_27 : decode cX10_strike 27 = .ok (.aload_n 0, 1) := by decide +kernel
theorem dX10_strike_28 : decode cX10_strike 28 = .ok (.getfield 57, 3) := by decide +kernel
theorem dX10_strike_31 : decode cX10_strike 31 = .ok (.iconst 2, 1) := by decide +kernel
theorem dX10_strike_32 : decode cX10_strike 32 = .ok (.iconst 0, 1) := by decide +kernel
theorem dX10_strike_33 : decode cX10_strike 33 = .ok (.iload_n 1, 1) := by decide +kernel
theorem dX10_strike_34 : decode cX10_strike 34 = .ok (.iconst 0, 1) := by decide +kernel
theorem dX10_strike_35 : decode cX10_strike 35 = .ok (.invokevirtual 366, 3) := by decide +kernel
theorem dX10_strike_38 : decode cX10_strike 38 = .ok (.ireturn, 1) := by decide +kernel
theorem dX10_known_0 : decode cX10_known 0 = .ok (.iload_n 1, 1) := by decide +kernel
theorem dX10_known_1 : decode cX10_known 1 = .ok (.iconst (-1), 1) := by decide +kernel
theorem dX10_known_2 : decode cX10_known 2 = .ok (.if_icmp .lt 14, 3) := by decide +kernel
theorem dX10_known_5 : decode cX10_known 5 = .ok (.iload_n 1, 1) := by decide +kernel
theorem dX10_known_6 : decode cX10_known 6 = .ok (.aload_n 0, 1) := by decide +kernel
theorem dX10_known_7 : decode cX10_known 7 = .ok (.getfield 57, 3) := by decide +kernel
theorem dX10_known_10 : decode cX10_known 10 = .ok (.getfield 370, 3) := by decide +kernel
theorem dX10_known_13 : decode cX10_known 13 = .ok (.if_icmp .le 5, 3) := by decide +kernel
theorem dX10_known_16 : decode cX10_known 16 = .ok (.iconst 0, 1) := by decide +kernel
theorem dX10_known_17 : decode cX10_known 17 = .ok (.ireturn, 1) := by decide +kernel
theorem dX10_known_18 : decode cX10_known 18 = .ok (.aload_n 0, 1) := by decide +kernel
theorem dX10_known_19 : decode cX10_known 19 = .ok (.getfield 57, 3) := by decide +kernel
theorem dX10_known_22 : decode cX10_known 22 = .ok (.iload_n 1, 1) := by decide +kernel
theorem dX10_known_23 : decode cX10_known 23 = .ok (.putfield 373, 3) := by decide +kernel
theorem dX10_known_26 : decode cX10_known 26 = .ok (.iconst 1, 1) := by decide +kernel
theorem dX10_known_27 : decode cX10_known 27 = .ok (.ireturn, 1) := by decide +kernel
theorem dX10_leaks_0 : decode cX10_leaks 0 = .ok (.aload_n 0, 1) := by decide +kernel
theorem dX10_leaks_1 : decode cX10_leaks 1 = .ok (.iload_n 1, 1) := by decide +kernel
theorem dX10_leaks_2 : decode cX10_leaks 2 = .ok (.invokevirtual 124, 3) := by decide +kernel
theorem dX10_leaks_5 : decode cX10_leaks 5 = .ok (.ifCond .ne 5, 3) := by decide +kernel
theorem dX10_leaks_8 : decode cX10_leaks 8 = .ok (.iconst (-1), 1) := by decide +kernel
theorem dX10_leaks_9 : decode cX10_leaks 9 = .ok (.ireturn, 1) := by decide +kernel
theorem dX10_leaks_10 : decode cX10_leaks 10 = .ok (.aload_n 0, 1) := by decide +kernel
theorem dX10_leaks_11 : decode cX10_leaks 11 = .ok (.getfield 57, 3) := by decide +kernel
theorem dX10_leaks_14 : decode cX10_leaks 14 = .ok (.invokevirtual 376, 3) := by decide +kernel
theorem dX10_leaks_17 : decode cX10_leaks 17 = .ok (.aload_n 0, 1) := by decide +kernel
theorem dX10_leaks_18 : decode cX10_leaks 18 = .ok (.iload_n 1, 1) := by decide +kernel
theorem dX10_leaks_19 : decode cX10_leaks 19 = .ok (.aload_n 0, 1) := by decide +kernel
theorem dX10_leaks_20 : decode cX10_leaks 20 = .ok (.getfield 57, 3) := by decide +kernel
theorem dX10_leaks_23 : decode cX10_leaks 23 = .ok (.invokevirtual 379, 3) := by decide +kernel
theorem dX10_leaks_26 : decode cX10_leaks 26 = .ok (.invokevirtual 382, 3) := by decide +kernel
theorem dX10_leaks_29 : decode cX10_leaks 29 = .ok (.ireturn, 1) := by decide +kernel
theorem dX10_ask_0 : decode cX10_ask 0 = .ok (.aload_n 0, 1) := by decide +kernel
theorem dX10_ask_1 : decode cX10_ask 1 = .ok (.iload_n 1, 1) := by decide +kernel
theorem dX10_ask_2 : decode cX10_ask 2 = .ok (.invokevirtual 124, 3) := by decide +kernel
theorem dX10_ask_5 : decode cX10_ask 5 = .ok (.ifCond .eq 10, 3) := by decide +kernel
theorem dX10_ask_8 : decode cX10_ask 8 = .ok (.iload_n 2, 1) := by decide +kernel
theorem dX10_ask_9 : decode cX10_ask 9 = .ok (.invokestatic 164, 3) := by decide +kernel
theorem dX10_ask_12 : decode cX10_ask 12 = .ok (.ifCond .ne 5, 3) := by decide +kernel
theorem dX10_ask_15 : decode cX10_ask 15 = .ok (.iconst (-1), 1) := by decide +kernel
theorem dX10_ask_16 : decode cX10_ask 16 = .ok (.ireturn, 1) := by decide +kernel
theorem dX10_ask_17 : decode cX10_ask 17 = .ok (.aload_n 0, 1) := by decide +kernel
theorem dX10_ask_18 : decode cX10_ask 18 = .ok (.getfield 57, 3) := by decide +kernel
theorem dX10_ask_21 : decode cX10_ask 21 = .ok (.invokevirtual 376, 3) := by decide +kernel
theorem dX10_ask_24 : decode cX10_ask 24 = .ok (.aload_n 0, 1) := by decide +kernel
theorem dX10_ask_25 : decode cX10_ask 25 = .ok (.iload_n 1, 1) := by decide +kernel
theorem dX10_ask_26 : decode cX10_ask 26 = .ok (.bipush 60, 2) := by decide +kernel
theorem dX10_ask_28 : decode cX10_ask 28 = .ok (.invokevirtual 382, 3) := by decide +kernel
theorem dX10_ask_31 : decode cX10_ask 31 = .ok (.istore_n 3, 1) := by decide +kernel
theorem dX10_ask_32 : decode cX10_ask 32 = .ok (.iconst 1, 1) := by decide +kernel
theorem dX10_ask_33 : decode cX10_ask 33 = .ok (.istore 4, 2) := by decide +kernel
theorem dX10_ask_35 : decode cX10_ask 35 = .ok (.aload_n 0, 1) := by decide +kernel
theorem dX10_ask_36 : decode cX10_ask 36 = .ok (.iload_n 3, 1) := by decide +kernel
theorem dX10_ask_37 : decode cX10_ask 37 = .ok (.iconst 1, 1) := by decide +kernel
theorem dX10_ask_38 : decode cX10_ask 38 = .ok (.invokevirtual 385, 3) := by decide +kernel
theorem dX10_ask_41 : decode cX10_ask 41 = .ok (.istore 5, 2) := by decide +kernel
theorem dX10_ask_43 : decode cX10_ask 43 = .ok (.iconst 2, 1) := by decide +kernel
theorem dX10_ask_44 : decode cX10_ask 44 = .ok (.istore 6, 2) := by decide +kernel
theorem dX10_ask_46 : decode cX10_ask 46 = .ok (.iload 6, 2) := by decide +kernel
theorem dX10_ask_48 : decode cX10_ask 48 = .ok (.bipush 60, 2) := by decide +kernel
theorem dX10_ask_50 : decode cX10_ask 50 = .ok (.if_icmp .gt 33, 3) := by decide +kernel
theorem dX10_ask_53 : decode cX10_ask 53 = .ok (.aload_n 0, 1) := by decide +kernel
theorem dX10_ask_54 : decode cX10_ask 54 = .ok (.iload_n 3, 1) := by decide +kernel
theorem dX10_ask_55 : decode cX10_ask 55 = .ok (.iload 6, 2) := by decide +kernel
theorem dX10_ask_57 : decode cX10_ask 57 = .ok (.invokevirtual 385, 3) := by decide +kernel
theorem dX10_ask_60 : decode cX10_ask 60 = .ok (.istore 7, 2) := by decide +kernel
theorem dX10_ask_62 : decode cX10_ask 62 = .ok (.iload 7, 2) := by decide +kernel
theorem dX10_ask_64 : decode cX10_ask 64 = .ok (.iload 5, 2) := by decide +kernel
theorem dX10_ask_66 : decode cX10_ask 66 = .ok (.if_icmp .ge 11, 3) := by decide +kernel
theorem dX10_ask_69 : decode cX10_ask 69 = .ok (.iload 7, 2) := by decide +kernel
theorem dX10_ask_71 : decode cX10_ask 71 = .ok (.istore 5, 2) := by decide +kernel
theorem dX10_ask_73 : decode cX10_ask 73 = .ok (.iload 6, 2) := by decide +kernel
theorem dX10_ask_75 : decode cX10_ask 75 = .ok (.istore 4, 2) := by decide +kernel
theorem dX10_ask_77 : decode cX10_ask 77 = .ok (.iinc 6 1, 3) := by decide +kernel
theorem dX10_ask_80 : decode cX10_ask 80 = .ok (.goto (-34), 3) := by decide +kernel
theorem dX10_ask_83 : decode cX10_ask 83 = .ok (.iload_n 2, 1) := by decide +kernel
theorem dX10_ask_84 : decode cX10_ask 84 = .ok (.ifCond .ne 8, 3) := by decide +kernel
theorem dX10_ask_87 : decode cX10_ask 87 = .ok (.iload 4, 2) := by decide +kernel
theorem dX10_ask_89 : decode cX10_ask 89 = .ok (.goto 5, 3) := by decide +kernel
theorem dX10_ask_92 : decode cX10_ask 92 = .ok (.iload 5, 2) := by decide +kernel
theorem dX10_ask_94 : decode cX10_ask 94 = .ok (.ireturn, 1) := by decide +kernel
theorem dX10_chance_0 : decode cX10_chance 0 = .ok (.iload_n 1, 1) := by decide +kernel
theorem dX10_chance_1 : decode cX10_chance 1 = .ok (.ifCond .lt 22, 3) := by decide +kernel
theorem dX10_chance_4 : decode cX10_chance 4 = .ok (.iload_n 2, 1) := by decide +kernel
theorem dX10_chance_5 : decode cX10_chance 5 = .ok (.iconst 1, 1) := by decide +kernel
theorem dX10_chance_6 : decode cX10_chance 6 = .ok (.if_icmp .lt 17, 3) := by decide +kernel
theorem dX10_chance_9 : decode cX10_chance 9 = .ok (.iload_n 2, 1) := by decide +kernel
theorem dX10_chance_10 : decode cX10_chance 10 = .ok (.bipush 99, 2) := by decide +kernel
theorem dX10_chance_12 : decode cX10_chance 12 = .ok (.if_icmp .gt 11, 3) := by decide +kernel
theorem dX10_chance_15 : decode cX10_chance 15 = .ok (.aload_n 0, 1) := by decide +kernel
theorem dX10_chance_16 : decode cX10_chance 16 = .ok (.iload_n 3, 1) := by decide +kernel
theorem dX10_chance_17 : decode cX10_chance 17 = .ok (.invokevirtual 174, 3) := by decide +kernel
theorem dX10_chance_20 : decode cX10_chance 20 = .ok (.ifCond .ne 5, 3) := by decide +kernel
theorem dX10_chance_23 : decode cX10_chance 23 = .ok (.iconst (-1), 1) := by decide +kernel
theorem dX10_chance_24 : decode cX10_chance 24 = .ok (.ireturn, 1) := by decide +kernel
theorem dX10_chance_25 : decode cX10_chance 25 = .ok (.iload_n 1, 1) := by decide +kernel
theorem dX10_chance_26 : decode cX10_chance 26 = .ok (.istore 4, 2) := by decide +kernel
theorem dX10_chance_28 : decode cX10_chance 28 = .ok (.iconst 0, 1) := by decide +kernel
theorem dX10_chance_29 : decode cX10_chance 29 = .ok (.istore 5, 2) := by decide +kernel
theorem dX10_chance_31 : decode cX10_chance 31 = .ok (.aload_n 0, 1) := by decide +kernel
theorem dX10_chance_32 : decode cX10_chance 32 = .ok (.getfield 43, 3) := by decide +kernel
theorem dX10_chance_35 : decode cX10_chance 35 = .ok (.invokevirtual 186, 3) := by decide +kernel
theorem dX10_chance_38 : decode cX10_chance 38 = .ok (.aload_n 0, 1) := by decide +kernel
theorem dX10_chance_39 : decode cX10_chance 39 = .ok (.getfield 43, 3) := by decide +kernel
theorem dX10_chance_42 : decode cX10_chance 42 = .ok (.iconst 1, 1) := by decide +kernel
theorem dX10_chance_43 : decode cX10_chance 43 = .ok (.putfield 265, 3) := by decide +kernel
theorem dX10_chance_46 : decode cX10_chance 46 = .ok (.iconst 0, 1) := by decide +kernel
theorem dX10_chance_47 : decode cX10_chance 47 = .ok (.istore 6, 2) := by decide +kernel
theorem dX10_chance_49 : decode cX10_chance 49 = .ok (.iload 6, 2) := by decide +kernel
theorem dX10_chance_51 : decode cX10_chance 51 = .ok (.bipush 10, 2) := by decide +kernel
theorem dX10_chance_53 : decode cX10_chance 53 = .ok (.if_icmp .ge 64, 3) := by decide +kernel
theorem dX10_chance_56 : decode cX10_chance 56 = .ok (.aload_n 0, 1) := by decide +kernel
theorem dX10_chance_57 : decode cX10_chance 57 = .ok (.getfield 37, 3) := by decide +kernel
theorem dX10_chance_60 : decode cX10_chance 60 = .ok (.aload_n 0, 1) := by decide +kernel
theorem dX10_chance_61 : decode cX10_chance 61 = .ok (.getfield 30, 3) := by decide +kernel
theorem dX10_chance_64 : decode cX10_chance 64 = .ok (.invokevirtual 272, 3) := by decide +kernel
theorem dX10_chance_67 : decode cX10_chance 67 = .ok (.aload_n 0, 1) := by decide +kernel
theorem dX10_chance_68 : decode cX10_chance 68 = .ok (.getfield 37, 3) := by decide +kernel
theorem dX10_chance_71 : decode cX10_chance 71 = .ok (.iload 4, 2) := by decide +kernel
theorem dX10_chance_73 : decode cX10_chance 73 = .ok (.putfield 388, 3) := by decide +kernel
theorem dX10_chance_76 : decode cX10_chance 76 = .ok (.aload_n 0, 1) := by decide +kernel
theorem dX10_chance_77 : decode cX10_chance 77 = .ok (.getfield 43, 3) := by decide +kernel
theorem dX10_chance_80 : decode cX10_chance 80 = .ok (.aload_n 0, 1) := by decide +kernel
theorem dX10_chance_81 : decode cX10_chance 81 = .ok (.getfield 37, 3) := by decide +kernel
theorem dX10_chance_84 : decode cX10_chance 84 = .ok (.iload_n 2, 1) := by decide +kernel
theorem dX10_chance_85 : decode cX10_chance 85 = .ok (.invokevirtual 268, 3) := by decide +kernel
theorem dX10_chance_88 : decode cX10_chance 88 = .ok (.aload_n 0, 1) := by decide +kernel
theorem dX10_chance_89 : decode cX10_chance 89 = .ok (.getfield 37, 3) := by decide +kernel
theorem dX10_chance_92 : decode cX10_chance 92 = .ok (.getfield 388, 3) := by decide +kernel
theorem dX10_chance_95 : decode cX10_chance 95 = .ok (.istore 4, 2) := by decide +kernel
theorem dX10_chance_97 : decode cX10_chance 97 = .ok (.aload_n 0, 1) := by decide +kernel
theorem dX10_chance_98 : decode cX10_chance 98 = .ok (.getfield 37, 3) := by decide +kernel
theorem dX10_chance_101 : decode cX10_chance 101 = .ok (.iload_n 3, 1) := by decide +kernel
theorem dX10_chance_102 : decode cX10_chance 102 = .ok (.invokevirtual 241, 3) := by decide +kernel
theorem dX10_chance_105 : decode cX10_chance 105 = .ok (.ifCond .eq 6, 3) := by decide +kernel
theorem dX10_chance_108 : decode cX10_chance 108 = .ok (.iinc 5 1, 3) := by decide +kernel
theorem dX10_chance_111 : decode cX10_chance 111 = .ok (.iinc 6 1, 3) := by decide +kernel
theorem dX10_chance_114 : decode cX10_chance 114 = .ok (.goto (-65), 3) := by decide +kernel
theorem dX10_chance_117 : decode cX10_chance 117 = .ok (.iload 5, 2) := by decide +kernel
theorem dX10_chance_119 : decode cX10_chance 119 = .ok (.ireturn, 1) := by decide +kernel
theorem dX10_tried_0 : decode cX10_tried 0 = .ok (.iload_n 1, 1) := by decide +kernel
theorem dX10_tried_1 : decode cX10_tried 1 = .ok (.iconst 2, 1) := by decide +kernel
theorem dX10_tried_2 : decode cX10_tried 2 = .ok (.if_icmp .ne 11, 3) := by decide +kernel
theorem dX10_tried_5 : decode cX10_tried 5 = .ok (.aload_n 0, 1) := by decide +kernel
theorem dX10_tried_6 : decode cX10_tried 6 = .ok (.iload_n 2, 1) := by decide +kernel
theorem dX10_tried_7 : decode cX10_tried 7 = .ok (.invokevirtual 174, 3) := by decide +kernel
theorem dX10_tried_10 : decode cX10_tried 10 = .ok (.goto 12, 3) := by decide +kernel
theorem dX10_tried_13 : decode cX10_tried 13 = .ok (.iload_n 2, 1) := by decide +kernel
theorem dX10_tried_14 : decode cX10_tried 14 = .ok (.ifCond .ne 7, 3) := by decide +kernel
theorem dX10_tried_17 : decode cX10_tried 17 = .ok (.iconst 1, 1) := by decide +kernel
theorem dX10_tried_18 : decode cX10_tried 18 = .ok (.goto 4, 3) := by decide +kernel
theorem dX10_tried_21 : decode cX10_tried 21 = .ok (.iconst 0, 1) := by decide +kernel
theorem dX10_tried_22 : decode cX10_tried 22 = .ok (.istore 4, 2) := by decide +kernel
theorem dX10_tried_24 : decode cX10_tried 24 = .ok (.iload_n 1, 1) := by decide +kernel
theorem dX10_tried_25 : decode cX10_tried 25 = .ok (.ifCond .lt 24, 3) := by decide +kernel
theorem dX10_tried_28 : decode cX10_tried 28 = .ok (.iload_n 1, 1) := by decide +kernel
theorem dX10_tried_29 : decode cX10_tried 29 = .ok (.iconst 4, 1) := by decide +kernel
theorem dX10_tried_30 : decode cX10_tried 30 = .ok (.if_icmp .gt 19, 3) := by decide +kernel
theorem dX10_tried_33 : decode cX10_tried 33 = .ok (.iload 4, 2) := by decide +kernel
theorem dX10_tried_35 : decode cX10_tried 35 = .ok (.ifCond .eq 14, 3) := by decide +kernel
theorem dX10_tried_38 : decode cX10_tried 38 = .ok (.iload_n 3, 1) := by decide +kernel
theorem dX10_tried_39 : decode cX10_tried 39 = .ok (.ifCond .lt 10, 3) := by decide +kernel
theorem dX10_tried_42 : decode cX10_tried 42 = .ok (.iload_n 3, 1) := by decide +kernel
theorem dX10_tried_43 : decode cX10_tried 43 = .ok (.sipush 200, 3) := by decide +kernel
theorem dX10_tried_46 : decode cX10_tried 46 = .ok (.if_icmp .le 5, 3) := by decide +kernel
theorem dX10_tried_49 : decode cX10_tried 49 = .ok (.iconst (-1), 1) := by decide +kernel
theorem dX10_tried_50 : decode cX10_tried 50 = .ok (.ireturn, 1) := by decide +kernel
theorem dX10_tried_51 : decode cX10_tried 51 = .ok (.aload_n 0, 1) := by decide +kernel
theorem dX10_tried_52 : decode cX10_tried 52 = .ok (.getfield 37, 3) := by decide +kernel
theorem dX10_tried_55 : decode cX10_tried 55 = .ok (.aload_n 0, 1) := by decide +kernel
theorem dX10_tried_56 : decode cX10_tried 56 = .ok (.getfield 30, 3) := by decide +kernel
theorem dX10_tried_59 : decode cX10_tried 59 = .ok (.invokevirtual 272, 3) := by decide +kernel
theorem dX10_tried_62 : decode cX10_tried 62 = .ok (.aload_n 0, 1) := by decide +kernel
theorem dX10_tried_63 : decode cX10_tried 63 = .ok (.getfield 43, 3) := by decide +kernel
theorem dX10_tried_66 : decode cX10_tried 66 = .ok (.invokevirtual 186, 3) := by decide +kernel
theorem dX10_tried_69 : decode cX10_tried 69 = .ok (.aload_n 0, 1) := by decide +kernel
theorem dX10_tried_70 : decode cX10_tried 70 = .ok (.getfield 43, 3) := by decide +kernel
theorem dX10_tried_73 : decode cX10_tried 73 = .ok (.iload_n 1, 1) := by decide +kernel
theorem dX10_tried_74 : decode cX10_tried 74 = .ok (.ifCond .eq 7, 3) := by decide +kernel
theorem dX10_tried_77 : decode cX10_tried 77 = .ok (.iconst 1, 1) := by decide +kernel
theorem dX10_tried_78 : decode cX10_tried 78 = .ok (.goto 4, 3) := by decide +kernel
theorem dX10_tried_81 : decode cX10_tried 81 = .ok (.iconst 0, 1) := by decide +kernel
theorem dX10_tried_82 : decode cX10_tried 82 = .ok (.putfield 391, 3) := by decide +kernel
theorem dX10_tried_85 : decode cX10_tried 85 = .ok (.aload_n 0, 1) := by decide +kernel
theorem dX10_tried_86 : decode cX10_tried 86 = .ok (.getfield 43, 3) := by decide +kernel
theorem dX10_tried_89 : decode cX10_tried 89 = .ok (.iload_n 1, 1) := by decide +kernel
theorem dX10_tried_90 : decode cX10_tried 90 = .ok (.iconst 1, 1) := by decide +kernel
theorem dX10_tried_91 : decode cX10_tried 91 = .ok (.if_icmp .eq 7, 3) := by decide +kernel
theorem dX10_tried_94 : decode cX10_tried 94 = .ok (.iconst 1, 1) := by decide +kernel
theorem dX10_tried_95 : decode cX10_tried 95 = .ok (.goto 4, 3) := by decide +kernel
theorem dX10_tried_98 : decode cX10_tried 98 = .ok (.iconst 0, 1) := by decide +kernel
theorem dX10_tried_99 : decode cX10_tried 99 = .ok (.putfield 394, 3) := by decide +kernel
theorem dX10_tried_102 : decode cX10_tried 102 = .ok (.aload_n 0, 1) := by decide +kernel
theorem dX10_tried_103 : decode cX10_tried 103 = .ok (.getfield 43, 3) := by decide +kernel
theorem dX10_tried_106 : decode cX10_tried 106 = .ok (.iload_n 1, 1) := by decide +kernel
theorem dX10_tried_107 : decode cX10_tried 107 = .ok (.iconst 2, 1) := by decide +kernel
theorem dX10_tried_108 : decode cX10_tried 108 = .ok (.if_icmp .ne 7, 3) := by decide +kernel
theorem dX10_tried_111 : decode cX10_tried 111 = .ok (.iload_n 2, 1) := by decide +kernel
theorem dX10_tried_112 : decode cX10_tried 112 = .ok (.goto 4, 3) := by decide +kernel
theorem dX10_tried_115 : decode cX10_tried 115 = .ok (.iconst (-1), 1) := by decide +kernel
theorem dX10_tried_116 : decode cX10_tried 116 = .ok (.putfield 397, 3) := by decide +kernel
theorem dX10_tried_119 : decode cX10_tried 119 = .ok (.aload_n 0, 1) := by decide +kernel
theorem dX10_tried_120 : decode cX10_tried 120 = .ok (.getfield 43, 3) := by decide +kernel
theorem dX10_tried_123 : decode cX10_tried 123 = .ok (.iload_n 1, 1) := by decide +kernel
theorem dX10_tried_124 : decode cX10_tried 124 = .ok (.iconst 3, 1) := by decide +kernel
theorem dX10_tried_125 : decode cX10_tried 125 = .ok (.if_icmp .eq 7, 3) := by decide +kernel
theorem dX10_tried_128 : decode cX10_tried 128 = .ok (.iconst 1, 1) := by decide +kernel
theorem dX10_tried_129 : decode cX10_tried 129 = .ok (.goto 4, 3) := by decide +kernel
theorem dX10_tried_132 : decode cX10_tried 132 = .ok (.iconst 0, 1) := by decide +kernel
theorem dX10_tried_133 : decode cX10_tried 133 = .ok (.putfield 400, 3) := by decide +kernel
theorem dX10_tried_136 : decode cX10_tried 136 = .ok (.aload_n 0, 1) := by decide +kernel
theorem dX10_tried_137 : decode cX10_tried 137 = .ok (.getfield 43, 3) := by decide +kernel
theorem dX10_tried_140 : decode cX10_tried 140 = .ok (.iload_n 1, 1) := by decide +kernel
theorem dX10_tried_141 : decode cX10_tried 141 = .ok (.iconst 4, 1) := by decide +kernel
theorem dX10_tried_142 : decode cX10_tried 142 = .ok (.if_icmp .ne 7, 3) := by decide +kernel
theorem dX10_tried_145 : decode cX10_tried 145 = .ok (.iconst 1, 1) := by decide +kernel
theorem dX10_tried_146 : decode cX10_tried 146 = .ok (.goto 4, 3) := by decide +kernel
theorem dX10_tried_149 : decode cX10_tried 149 = .ok (.iconst 0, 1) := by decide +kernel
theorem dX10_tried_150 : decode cX10_tried 150 = .ok (.putfield 403, 3) := by decide +kernel
theorem dX10_tried_153 : decode cX10_tried 153 = .ok (.aload_n 0, 1) := by decide +kernel
theorem dX10_tried_154 : decode cX10_tried 154 = .ok (.getfield 43, 3) := by decide +kernel
theorem dX10_tried_157 : decode cX10_tried 157 = .ok (.aload_n 0, 1) := by decide +kernel
theorem dX10_tried_158 : decode cX10_tried 158 = .ok (.getfield 37, 3) := by decide +kernel
theorem dX10_tried_161 : decode cX10_tried 161 = .ok (.iload_n 3, 1) := by decide +kernel
theorem dX10_tried_162 : decode cX10_tried 162 = .ok (.invokevirtual 268, 3) := by decide +kernel
theorem dX10_tried_165 : decode cX10_tried 165 = .ok (.aload_n 0, 1) := by decide +kernel
theorem dX10_tried_166 : decode cX10_tried 166 = .ok (.getfield 37, 3) := by decide +kernel
theorem dX10_tried_169 : decode cX10_tried 169 = .ok (.iconst 2, 1) := by decide +kernel
theorem dX10_tried_170 : decode cX10_tried 170 = .ok (.invokevirtual 275, 3) := by decide +kernel
theorem dX10_tried_173 : decode cX10_tried 173 = .ok (.ireturn, 1) := by decide +kernel
theorem dX10_undo_0 : decode cX10_undo 0 = .ok (.aload_n 0, 1) := by decide +kernel
theorem dX10_undo_1 : decode cX10_undo 1 = .ok (.getfield 64, 3) := by decide +kernel
theorem dX10_undo_4 : decode cX10_undo 4 = .ok (.aload_n 0, 1) := by decide +kernel
theorem dX10_undo_5 : decode cX10_undo 5 = .ok (.getfield 30, 3) := by decide +kernel
theorem dX10_undo_8 : decode cX10_undo 8 = .ok (.invokevirtual 406, 3) := by decide +kernel
theorem dX10_undo_11 : decode cX10_undo 11 = .ok (.ifCond .eq 13, 3) := by decide +kernel
theorem dX10_undo_14 : decode cX10_undo 14 = .ok (.aload_n 0, 1) := by decide +kernel
theorem dX10_undo_15 : decode cX10_undo 15 = .ok (.getfield 64, 3) := by decide +kernel
theorem dX10_undo_18 : decode cX10_undo 18 = .ok (.getfield 410, 3) := by decide +kernel
theorem dX10_undo_21 : decode cX10_undo 21 = .ok (.goto 4, 3) := by decide +kernel
theorem dX10_undo_24 : decode cX10_undo 24 = .ok (.iconst (-1), 1) := by decide +kernel
theorem dX10_undo_25 : decode cX10_undo 25 = .ok (.ireturn, 1) := by decide +kernel
theorem dX10_keep_0 : decode cX10_keep 0 = .ok (.aload_n 0, 1) := by decide +kernel
theorem dX10_keep_1 : decode cX10_keep 1 = .ok (.getfield 34, 3) := by decide +kernel
theorem dX10_keep_4 : decode cX10_keep 4 = .ok (.aload_n 0, 1) := by decide +kernel
theorem dX10_keep_5 : decode cX10_keep 5 = .ok (.getfield 30, 3) := by decide +kernel
theorem dX10_keep_8 : decode cX10_keep 8 = .ok (.invokevirtual 272, 3) := by decide +kernel
theorem dX10_keep_11 : decode cX10_keep 11 = .ok (.aload_n 0, 1) := by decide +kernel
theorem dX10_keep_12 : decode cX10_keep 12 = .ok (.iconst 1, 1) := by decide +kernel
theorem dX10_keep_13 : decode cX10_keep 13 = .ok (.putfield 109, 3) := by decide +kernel
theorem dX10_keep_16 : decode cX10_keep 16 = .ok (.aload_n 0, 1) := by decide +kernel
theorem dX10_keep_17 : decode cX10_keep 17 = .ok (.getfield 30, 3) := by decide +kernel
theorem dX10_keep_20 : decode cX10_keep 20 = .ok (.getfield 262, 3) := by decide +kernel
theorem dX10_keep_23 : decode cX10_keep 23 = .ok (.ireturn, 1) := by decide +kernel
theorem dX10_back_0 : decode cX10_back 0 = .ok (.aload_n 0, 1) := by decide +kernel
theorem dX10_back_1 : decode cX10_back 1 = .ok (.getfield 109, 3) := by decide +kernel
theorem dX10_back_4 : decode cX10_back 4 = .ok (.ifCond .ne 5, 3) := by decide +kernel
theorem dX10_back_7 : decode cX10_back 7 = .ok (.iconst (-1), 1) := by decide +kernel
theorem dX10_back_8 : decode cX10_back 8 = .ok (.ireturn, 1) := by decide +kernel
theorem dX10_back_9 : decode cX10_back 9 = .ok (.aload_n 0, 1) := by decide +kernel
theorem dX10_back_10 : decode cX10_back 10 = .ok (.getfield 30, 3) := by decide +kernel
theorem dX10_back_13 : decode cX10_back 13 = .ok (.aload_n 0, 1) := by decide +kernel
theorem dX10_back_14 : decode cX10_back 14 = .ok (.getfield 34, 3) := by decide +kernel
theorem dX10_back_17 : decode cX10_back 17 = .ok (.invokevirtual 272, 3) := by decide +kernel
theorem dX10_back_20 : decode cX10_back 20 = .ok (.aload_n 0, 1) := by decide +kernel
theorem dX10_back_21 : decode cX10_back 21 = .ok (.getfield 64, 3) := by decide +kernel
theorem dX10_back_24 : decode cX10_back 24 = .ok (.invokevirtual 116, 3) := by decide +kernel
theorem dX10_back_27 : decode cX10_back 27 = .ok (.aload_n 0, 1) := by decide +kernel
theorem dX10_back_28 : decode cX10_back 28 = .ok (.getfield 30, 3) := by decide +kernel
theorem dX10_back_31 : decode cX10_back 31 = .ok (.getfield 262, 3) := by decide +kernel
theorem dX10_back_34 : decode cX10_back 34 = .ok (.ireturn, 1) := by decide +kernel
theorem dX10_count_0 : decode cX10_count 0 = .ok (.iload_n 1, 1) := by decide +kernel
theorem dX10_count_1 : decode cX10_count 1 = .ok (.tableswitch 228 0 15 #[79, 87, 98, 106, 114, 125, 136, 144, 159, 168, 177, 185, 193, 204, 212, 220], 79) := by decide +kernel
theorem dX10_count_80 : decode cX10_count 80 = .ok (.aload_n 0, 1) := by decide +kernel
theorem dX10_count_81 : decode cX10_count 81 = .ok (.getfield 21, 3) := by decide +kernel
theorem dX10_count_84 : decode cX10_count 84 = .ok (.getfield 293, 3) := by decide +kernel
theorem dX10_count_87 : decode cX10_count 87 = .ok (.ireturn, 1) := by decide +kernel
theorem dX10_count_88 : decode cX10_count 88 = .ok (.aload_n 0, 1) := by decide +kernel
theorem dX10_count_89 : decode cX10_count 89 = .ok (.getfield 21, 3) := by decide +kernel
theorem dX10_count_92 : decode cX10_count 92 = .ok (.getfield 147, 3) := by decide +kernel
theorem dX10_count_95 : decode cX10_count 95 = .ok (.getfield 411, 3) := by decide +kernel
theorem dX10_count_98 : decode cX10_count 98 = .ok (.ireturn, 1) := by decide +kernel
theorem dX10_count_99 : decode cX10_count 99 = .ok (.aload_n 0, 1) := by decide +kernel
theorem dX10_count_100 : decode cX10_count 100 = .ok (.getfield 21, 3) := by decide +kernel
theorem dX10_count_103 : decode cX10_count 103 = .ok (.getfield 412, 3) := by decide +kernel
theorem dX10_count_106 : decode cX10_count 106 = .ok (.ireturn, 1) := by decide +kernel
theorem dX10_count_107 : decode cX10_count 107 = .ok (.aload_n 0, 1) := by decide +kernel
theorem dX10_count_108 : decode cX10_count 108 = .ok (.getfield 21, 3) := by decide +kernel
theorem dX10_count_111 : decode cX10_count 111 = .ok (.getfield 415, 3) := by decide +kernel
theorem dX10_count_114 : decode cX10_count 114 = .ok (.ireturn, 1) := by decide +kernel
theorem dX10_count_115 : decode cX10_count 115 = .ok (.aload_n 0, 1) := by decide +kernel
theorem dX10_count_116 : decode cX10_count 116 = .ok (.getfield 21, 3) := by decide +kernel
theorem dX10_count_119 : decode cX10_count 119 = .ok (.getfield 147, 3) := by decide +kernel
theorem dX10_count_122 : decode cX10_count 122 = .ok (.getfield 418, 3) := by decide +kernel
theorem dX10_count_125 : decode cX10_count 125 = .ok (.ireturn, 1) := by decide +kernel
theorem dX10_count_126 : decode cX10_count 126 = .ok (.aload_n 0, 1) := by decide +kernel
theorem dX10_count_127 : decode cX10_count 127 = .ok (.getfield 21, 3) := by decide +kernel
theorem dX10_count_130 : decode cX10_count 130 = .ok (.getfield 421, 3) := by decide +kernel
theorem dX10_count_133 : decode cX10_count 133 = .ok (.getfield 425, 3) := by decide +kernel
theorem dX10_count_136 : decode cX10_count 136 = .ok (.ireturn, 1) := by decide +kernel
theorem dX10_count_137 : decode cX10_count 137 = .ok (.aload_n 0, 1) := by decide +kernel
theorem dX10_count_138 : decode cX10_count 138 = .ok (.getfield 30, 3) := by decide +kernel
theorem dX10_count_141 : decode cX10_count 141 = .ok (.getfield 262, 3) := by decide +kernel
theorem dX10_count_144 : decode cX10_count 144 = .ok (.ireturn, 1) := by decide +kernel
theorem dX10_count_145 : decode cX10_count 145 = .ok (.aload_n 0, 1) := by decide +kernel
theorem dX10_count_146 : decode cX10_count 146 = .ok (.getfield 30, 3) := by decide +kernel
theorem dX10_count_149 : decode cX10_count 149 = .ok (.aload_n 0, 1) := by decide +kernel
theorem dX10_count_150 : decode cX10_count 150 = .ok (.getfield 21, 3) := by decide +kernel
theorem dX10_count_153 : decode cX10_count 153 = .ok (.invokevirtual 430, 3) := by decide +kernel
theorem dX10_count_156 : decode cX10_count 156 = .ok (.invokevirtual 296, 3) := by decide +kernel
theorem dX10_count_159 : decode cX10_count 159 = .ok (.ireturn, 1) := by decide +kernel
theorem dX10_count_160 : decode cX10_count 160 = .ok (.aload_n 0, 1) := by decide +kernel
theorem dX10_count_161 : decode cX10_count 161 = .ok (.getfield 30, 3) := by decide +kernel
theorem dX10_count_164 : decode cX10_count 164 = .ok (.iconst 1, 1) := by decide +kernel
theorem dX10_count_165 : decode cX10_count 165 = .ok (.invokevirtual 275, 3) := by decide +kernel
theorem dX10_count_168 : decode cX10_count 168 = .ok (.ireturn, 1) := by decide +kernel
theorem dX10_count_169 : decode cX10_count 169 = .ok (.aload_n 0, 1) := by decide +kernel
theorem dX10_count_170 : decode cX10_count 170 = .ok (.getfield 30, 3) := by decide +kernel
theorem dX10_count_173 : decode cX10_count 173 = .ok (.iconst 2, 1) := by decide +kernel
theorem dX10_count_174 : decode cX10_count 174 = .ok (.invokevirtual 275, 3) := by decide +kernel
theorem dX10_count_177 : decode cX10_count 177 = .ok (.ireturn, 1) := by decide +kernel
theorem dX10_count_178 : decode cX10_count 178 = .ok (.aload_n 0, 1) := by decide +kernel
theorem dX10_count_179 : decode cX10_count 179 = .ok (.getfield 30, 3) := by decide +kernel
theorem dX10_count_182 : decode cX10_count 182 = .ok (.invokevirtual 278, 3) := by decide +kernel
theorem dX10_count_185 : decode cX10_count 185 = .ok (.ireturn, 1) := by decide +kernel
theorem dX10_count_186 : decode cX10_count 186 = .ok (.aload_n 0, 1) := by decide +kernel
theorem dX10_count_187 : decode cX10_count 187 = .ok (.getfield 30, 3) := by decide +kernel
theorem dX10_count_190 : decode cX10_count 190 = .ok (.getfield 287, 3) := by decide +kernel
theorem dX10_count_193 : decode cX10_count 193 = .ok (.ireturn, 1) := by decide +kernel
theorem dX10_count_194 : decode cX10_count 194 = .ok (.aload_n 0, 1) := by decide +kernel
theorem dX10_count_195 : decode cX10_count 195 = .ok (.getfield 30, 3) := by decide +kernel
theorem dX10_count_198 : decode cX10_count 198 = .ok (.getfield 193, 3) := by decide +kernel
theorem dX10_count_201 : decode cX10_count 201 = .ok (.invokestatic 282, 3) := by decide +kernel
theorem dX10_count_204 : decode cX10_count 204 = .ok (.ireturn, 1) := by decide +kernel
theorem dX10_count_205 : decode cX10_count 205 = .ok (.aload_n 0, 1) := by decide +kernel
theorem dX10_count_206 : decode cX10_count 206 = .ok (.getfield 57, 3) := by decide +kernel
theorem dX10_count_209 : decode cX10_count 209 = .ok (.getfield 370, 3) := by decide +kernel
theorem dX10_count_212 : decode cX10_count 212 = .ok (.ireturn, 1) := by decide +kernel
theorem dX10_count_213 : decode cX10_count 213 = .ok (.aload_n 0, 1) := by decide +kernel
theorem dX10_count_214 : decode cX10_count 214 = .ok (.getfield 57, 3) := by decide +kernel
theorem dX10_count_217 : decode cX10_count 217 = .ok (.invokevirtual 433, 3) := by decide +kernel
theorem dX10_count_220 : decode cX10_count 220 = .ok (.ireturn, 1) := by decide +kernel
theorem dX10_count_221 : decode cX10_count 221 = .ok (.aload_n 0, 1) := by decide +kernel
theorem dX10_count_222 : decode cX10_count 222 = .ok (.getfield 64, 3) := by decide +kernel
theorem dX10_count_225 : decode cX10_count 225 = .ok (.getfield 410, 3) := by decide +kernel
theorem dX10_count_228 : decode cX10_count 228 = .ok (.ireturn, 1) := by decide +kernel
theorem dX10_count_229 : decode cX10_count 229 = .ok (.iconst (-1), 1) := by decide +kernel
theorem dX10_count_230 : decode cX10_count 230 = .ok (.ireturn, 1) := by decide +kernel
theorem dX10_isPond_0 : decode cX10_isPond 0 = .ok (.iload_n 1, 1) := by decide +kernel
theorem dX10_isPond_1 : decode cX10_isPond 1 = .ok (.ifCond .lt 18, 3) := by decide +kernel
theorem dX10_isPond_4 : decode cX10_isPond 4 = .ok (.iload_n 1, 1) := by decide +kernel
theorem dX10_isPond_5 : decode cX10_isPond 5 = .ok (.aload_n 0, 1) := by decide +kernel
theorem dX10_isPond_6 : decode cX10_isPond 6 = .ok (.getfield 21, 3) := by decide +kernel
theorem dX10_isPond_9 : decode cX10_isPond 9 = .ok (.getfield 293, 3) := by decide +kernel
theorem dX10_isPond_12 : decode cX10_isPond 12 = .ok (.if_icmp .ge 7, 3) := by decide +kernel
theorem dX10_isPond_15 : decode cX10_isPond 15 = .ok (.iconst 1, 1) := by decide +kernel
theorem dX10_isPond_16 : decode cX10_isPond 16 = .ok (.goto 4, 3) := by decide +kernel
theorem dX10_isPond_19 : decode cX10_isPond 19 = .ok (.iconst 0, 1) := by decide +kernel
theorem dX10_isPond_20 : decode cX10_isPond 20 = .ok (.ireturn, 1) := by decide +kernel
theorem dX10_isPipe_0 : decode cX10_isPipe 0 = .ok (.iload_n 1, 1) := by decide +kernel
theorem dX10_isPipe_1 : decode cX10_isPipe 1 = .ok (.ifCond .lt 18, 3) := by decide +kernel
theorem dX10_isPipe_4 : decode cX10_isPipe 4 = .ok (.iload_n 1, 1) := by decide +kernel
theorem dX10_isPipe_5 : decode cX10_isPipe 5 = .ok (.aload_n 0, 1) := by decide +kernel
theorem dX10_isPipe_6 : decode cX10_isPipe 6 = .ok (.getfield 21, 3) := by decide +kernel
theorem dX10_isPipe_9 : decode cX10_isPipe 9 = .ok (.getfield 412, 3) := by decide +kernel
theorem dX10_isPipe_12 : decode cX10_isPipe 12 = .ok (.if_icmp .ge 7, 3) := by decide +kernel
theorem dX10_isPipe_15 : decode cX10_isPipe 15 = .ok (.iconst 1, 1) := by decide +kernel
theorem dX10_isPipe_16 : decode cX10_isPipe 16 = .ok (.goto 4, 3) := by decide +kernel
theorem dX10_isPipe_19 : decode cX10_isPipe 19 = .ok (.iconst 0, 1) := by decide +kernel
theorem dX10_isPipe_20 : decode cX10_isPipe 20 = .ok (.ireturn, 1) := by decide +kernel
theorem dX10_isLock_0 : decode cX10_isLock 0 = .ok (.iload_n 1, 1) := by decide +kernel
theorem dX10_isLock_1 : decode cX10_isLock 1 = .ok (.ifCond .lt 21, 3) := by decide +kernel
theorem dX10_isLock_4 : decode cX10_isLock 4 = .ok (.iload_n 1, 1) := by decide +kernel
theorem dX10_isLock_5 : decode cX10_isLock 5 = .ok (.aload_n 0, 1) := by decide +kernel
theorem dX10_isLock_6 : decode cX10_isLock 6 = .ok (.getfield 21, 3) := by decide +kernel
theorem dX10_isLock_9 : decode cX10_isLock 9 = .ok (.getfield 147, 3) := by decide +kernel
theorem dX10_isLock_12 : decode cX10_isLock 12 = .ok (.getfield 411, 3) := by decide +kernel
theorem dX10_isLock_15 : decode cX10_isLock 15 = .ok (.if_icmp .ge 7, 3) := by decide +kernel
theorem dX10_isLock_18 : decode cX10_isLock 18 = .ok (.iconst 1, 1) := by decide +kernel
theorem dX10_isLock_19 : decode cX10_isLock 19 = .ok (.goto 4, 3) := by decide +kernel
theorem dX10_isLock_22 : decode cX10_isLock 22 = .ok (.iconst 0, 1) := by decide +kernel
theorem dX10_isLock_23 : decode cX10_isLock 23 = .ok (.ireturn, 1) := by decide +kernel
theorem dX10_isBoat_0 : decode cX10_isBoat 0 = .ok (.iload_n 1, 1) := by decide +kernel
theorem dX10_isBoat_1 : decode cX10_isBoat 1 = .ok (.ifCond .lt 21, 3) := by decide +kernel
theorem dX10_isBoat_4 : decode cX10_isBoat 4 = .ok (.iload_n 1, 1) := by decide +kernel
theorem dX10_isBoat_5 : decode cX10_isBoat 5 = .ok (.aload_n 0, 1) := by decide +kernel
theorem dX10_isBoat_6 : decode cX10_isBoat 6 = .ok (.getfield 21, 3) := by decide +kernel
theorem dX10_isBoat_9 : decode cX10_isBoat 9 = .ok (.getfield 147, 3) := by decide +kernel
theorem dX10_isBoat_12 : decode cX10_isBoat 12 = .ok (.getfield 418, 3) := by decide +kernel
theorem dX10_isBoat_15 : decode cX10_isBoat 15 = .ok (.if_icmp .ge 7, 3) := by decide +kernel
theorem dX10_isBoat_18 : decode cX10_isBoat 18 = .ok (.iconst 1, 1) := by decide +kernel
theorem dX10_isBoat_19 : decode cX10_isBoat 19 = .ok (.goto 4, 3) := by decide +kernel
theorem dX10_isBoat_22 : decode cX10_isBoat 22 = .ok (.iconst 0, 1) := by decide +kernel
theorem dX10_isBoat_23 : decode cX10_isBoat 23 = .ok (.ireturn, 1) := by decide +kernel
theorem dX10_isHalf_0 : decode cX10_isHalf 0 = .ok (.iload_n 0, 1) := by decide +kernel
theorem dX10_isHalf_1 : decode cX10_isHalf 1 = .ok (.ifCond .eq 8, 3) := by decide +kernel
theorem dX10_isHalf_4 : decode cX10_isHalf 4 = .ok (.iload_n 0, 1) := by decide +kernel
theorem dX10_isHalf_5 : decode cX10_isHalf 5 = .ok (.iconst 1, 1) := by decide +kernel
theorem dX10_isHalf_6 : decode cX10_isHalf 6 = .ok (.if_icmp .ne 7, 3) := by decide +kernel
theorem dX10_isHalf_9 : decode cX10_isHalf 9 = .ok (.iconst 1, 1) := by decide +kernel
theorem dX10_isHalf_10 : decode cX10_isHalf 10 = .ok (.goto 4, 3) := by decide +kernel
theorem dX10_isHalf_13 : decode cX10_isHalf 13 = .ok (.iconst 0, 1) := by decide +kernel
theorem dX10_isHalf_14 : decode cX10_isHalf 14 = .ok (.ireturn, 1) := by decide +kernel
theorem dX10_isHeight_0 : decode cX10_isHeight 0 = .ok (.iload_n 0, 1) := by decide +kernel
theorem dX10_isHeight_1 : decode cX10_isHeight 1 = .ok (.ifCond .lt 14, 3) := by decide +kernel
theorem dX10_isHeight_4 : decode cX10_isHeight 4 = .ok (.iload_n 0, 1) := by decide +kernel
theorem dX10_isHeight_5 : decode cX10_isHeight 5 = .ok (.sipush 999, 3) := by decide +kernel
theorem dX10_isHeight_8 : decode cX10_isHeight 8 = .ok (.if_icmp .gt 7, 3) := by decide +kernel
theorem dX10_isHeight_11 : decode cX10_isHeight 11 = .ok (.iconst 1, 1) := by decide +kernel
theorem dX10_isHeight_12 : decode cX10_isHeight 12 = .ok (.goto 4, 3) := by decide +kernel
theorem dX10_isHeight_15 : decode cX10_isHeight 15 = .ok (.iconst 0, 1) := by decide +kernel
theorem dX10_isHeight_16 : decode cX10_isHeight 16 = .ok (.ireturn, 1) := by decide +kernel
theorem dX10_isBucket_0 : decode cX10_isBucket 0 = .ok (.iload_n 0, 1) := by decide +kernel
theorem dX10_isBucket_1 : decode cX10_isBucket 1 = .ok (.iconst 1, 1) := by decide +kernel
theorem dX10_isBucket_2 : decode cX10_isBucket 2 = .ok (.if_icmp .lt 13, 3) := by decide +kernel
theorem dX10_isBucket_5 : decode cX10_isBucket 5 = .ok (.iload_n 0, 1) := by decide +kernel
theorem dX10_isBucket_6 : decode cX10_isBucket 6 = .ok (.bipush 99, 2) := by decide +kernel
theorem dX10_isBucket_8 : decode cX10_isBucket 8 = .ok (.if_icmp .gt 7, 3) := by decide +kernel
theorem dX10_isBucket_11 : decode cX10_isBucket 11 = .ok (.iconst 1, 1) := by decide +kernel
theorem dX10_isBucket_12 : decode cX10_isBucket 12 = .ok (.goto 4, 3) := by decide +kernel
theorem dX10_isBucket_15 : decode cX10_isBucket 15 = .ok (.iconst 0, 1) := by decide +kernel
theorem dX10_isBucket_16 : decode cX10_isBucket 16 = .ok (.ireturn, 1) := by decide +kernel
theorem dX10_orWithout_0 : decode cX10_orWithout 0 = .ok (.iload_n 0, 1) := by decide +kernel
theorem dX10_orWithout_1 : decode cX10_orWithout 1 = .ok (.iconst (-1), 1) := by decide +kernel
theorem dX10_orWithout_2 : decode cX10_orWithout 2 = .ok (.if_icmp .ne 8, 3) := by decide +kernel
theorem dX10_orWithout_5 : decode cX10_orWithout 5 = .ok (.bipush (-2), 2) := by decide +kernel
theorem dX10_orWithout_7 : decode cX10_orWithout 7 = .ok (.goto 4, 3) := by decide +kernel
theorem dX10_orWithout_10 : decode cX10_orWithout 10 = .ok (.iload_n 0, 1) := by decide +kernel
theorem dX10_orWithout_11 : decode cX10_orWithout 11 = .ok (.ireturn, 1) := by decide +kernel
theorem dX10_inLeastTerms_0 : decode cX10_inLeastTerms 0 = .ok (.lload_n 0, 1) := by decide +kernel
theorem dX10_inLeastTerms_1 : decode cX10_inLeastTerms 1 = .ok (.lstore 5, 2) := by decide +kernel
theorem dX10_inLeastTerms_3 : decode cX10_inLeastTerms 3 = .ok (.lload_n 2, 1) := by decide +kernel
theorem dX10_inLeastTerms_4 : decode cX10_inLeastTerms 4 = .ok (.lstore 7, 2) := by decide +kernel
theorem dX10_inLeastTerms_6 : decode cX10_inLeastTerms 6 = .ok (.iconst 0, 1) := by decide +kernel
theorem dX10_inLeastTerms_7 : decode cX10_inLeastTerms 7 = .ok (.istore 9, 2) := by decide +kernel
theorem dX10_inLeastTerms_9 : decode cX10_inLeastTerms 9 = .ok (.iload 9, 2) := by decide +kernel
theorem dX10_inLeastTerms_11 : decode cX10_inLeastTerms 11 = .ok (.sipush 200, 3) := by decide +kernel
theorem dX10_inLeastTerms_14 : decode cX10_inLeastTerms 14 = .ok (.if_icmp .ge 31, 3) := by decide +kernel
theorem dX10_inLeastTerms_17 : decode cX10_inLeastTerms 17 = .ok (.lload 7, 2) := by decide +kernel
theorem dX10_inLeastTerms_19 : decode cX10_inLeastTerms 19 = .ok (.lconst 0, 1) := by decide +kernel
theorem dX10_inLeastTerms_20 : decode cX10_inLeastTerms 20 = .ok (.lcmp, 1) := by decide +kernel
theorem dX10_inLeastTerms_21 : decode cX10_inLeastTerms 21 = .ok (.ifCond .eq 24, 3) := by decide +kernel
theorem dX10_inLeastTerms_24 : decode cX10_inLeastTerms 24 = .ok (.lload 5, 2) := by decide +kernel
theorem dX10_inLeastTerms_26 : decode cX10_inLeastTerms 26 = .ok (.lload 7, 2) := by decide +kernel
theorem dX10_inLeastTerms_28 : decode cX10_inLeastTerms 28 = .ok (.lrem, 1) := by decide +kernel
theorem dX10_inLeastTerms_29 : decode cX10_inLeastTerms 29 = .ok (.lstore 10, 2) := by decide +kernel
theorem dX10_inLeastTerms_31 : decode cX10_inLeastTerms 31 = .ok (.lload 7, 2) := by decide +kernel
theorem dX10_inLeastTerms_33 : decode cX10_inLeastTerms 33 = .ok (.lstore 5, 2) := by decide +kernel
theorem dX10_inLeastTerms_35 : decode cX10_inLeastTerms 35 = .ok (.lload 10, 2) := by decide +kernel
theorem dX10_inLeastTerms_37 : decode cX10_inLeastTerms 37 = .ok (.lstore 7, 2) := by decide +kernel
theorem dX10_inLeastTerms_39 : decode cX10_inLeastTerms 39 = .ok (.iinc 9 1, 3) := by decide +kernel
theorem dX10_inLeastTerms_42 : decode cX10_inLeastTerms 42 = .ok (.goto (-33), 3) := by decide +kernel
theorem dX10_inLeastTerms_45 : decode cX10_inLeastTerms 45 = .ok (.lload 5, 2) := by decide +kernel
theorem dX10_inLeastTerms_47 : decode cX10_inLeastTerms 47 = .ok (.lconst 0, 1) := by decide +kernel
theorem dX10_inLeastTerms_48 : decode cX10_inLeastTerms 48 = .ok (.lcmp, 1) := by decide +kernel
theorem dX10_inLeastTerms_49 : decode cX10_inLeastTerms 49 = .ok (.ifCond .ne 7, 3) := by decide +kernel
theorem dX10_inLeastTerms_52 : decode cX10_inLeastTerms 52 = .ok (.ldc2_w 356, 3) := by decide +kernel
theorem dX10_inLeastTerms_55 : decode cX10_inLeastTerms 55 = .ok (.lreturn, 1) := by decide +kernel
theorem dX10_inLeastTerms_56 : decode cX10_inLeastTerms 56 = .ok (.iload 4, 2) := by decide +kernel
theorem dX10_inLeastTerms_58 : decode cX10_inLeastTerms 58 = .ok (.ifCond .ne 7, 3) := by decide +kernel
theorem dX10_inLeastTerms_61 : decode cX10_inLeastTerms 61 = .ok (.lload_n 0, 1) := by decide +kernel
theorem dX10_inLeastTerms_62 : decode cX10_inLeastTerms 62 = .ok (.goto 4, 3) := by decide +kernel
theorem dX10_inLeastTerms_65 : decode cX10_inLeastTerms 65 = .ok (.lload_n 2, 1) := by decide +kernel
theorem dX10_inLeastTerms_66 : decode cX10_inLeastTerms 66 = .ok (.lload 5, 2) := by decide +kernel
theorem dX10_inLeastTerms_68 : decode cX10_inLeastTerms 68 = .ok (.ldiv, 1) := by decide +kernel
theorem dX10_inLeastTerms_69 : decode cX10_inLeastTerms 69 = .ok (.lreturn, 1) := by decide +kernel
theorem dX10_isRest_0 : decode cX10_isRest 0 = .ok (.iload_n 3, 1) := by decide +kernel
theorem dX10_isRest_1 : decode cX10_isRest 1 = .ok (.iconst 2, 1) := by decide +kernel
theorem dX10_isRest_2 : decode cX10_isRest 2 = .ok (.idiv, 1) := by decide +kernel
theorem dX10_isRest_3 : decode cX10_isRest 3 = .ok (.istore 4, 2) := by decide +kernel
theorem dX10_isRest_5 : decode cX10_isRest 5 = .ok (.iload_n 3, 1) := by decide +kernel
theorem dX10_isRest_6 : decode cX10_isRest 6 = .ok (.iconst 2, 1) := by decide +kernel
theorem dX10_isRest_7 : decode cX10_isRest 7 = .ok (.irem, 1) := by decide +kernel
theorem dX10_isRest_8 : decode cX10_isRest 8 = .ok (.istore 5, 2) := by decide +kernel
theorem dX10_isRest_10 : decode cX10_isRest 10 = .ok (.aload_n 0, 1) := by decide +kernel
theorem dX10_isRest_11 : decode cX10_isRest 11 = .ok (.getfield 30, 3) := by decide +kernel
theorem dX10_isRest_14 : decode cX10_isRest 14 = .ok (.getfield 141, 3) := by decide +kernel
theorem dX10_isRest_17 : decode cX10_isRest 17 = .ok (.iload_n 1, 1) := by decide +kernel
theorem dX10_isRest_18 : decode cX10_isRest 18 = .ok (.iaload, 1) := by decide +kernel
theorem dX10_isRest_19 : decode cX10_isRest 19 = .ok (.istore 6, 2) := by decide +kernel
theorem dX10_isRest_21 : decode cX10_isRest 21 = .ok (.aload_n 0, 1) := by decide +kernel
theorem dX10_isRest_22 : decode cX10_isRest 22 = .ok (.getfield 30, 3) := by decide +kernel
theorem dX10_isRest_25 : decode cX10_isRest 25 = .ok (.getfield 141, 3) := by decide +kernel
theorem dX10_isRest_28 : decode cX10_isRest 28 = .ok (.iload_n 2, 1) := by decide +kernel
theorem dX10_isRest_29 : decode cX10_isRest 29 = .ok (.iaload, 1) := by decide +kernel
theorem dX10_isRest_30 : decode cX10_isRest 30 = .ok (.istore 7, 2) := by decide +kernel
theorem dX10_isRest_32 : decode cX10_isRest 32 = .ok (.iload 6, 2) := by decide +kernel
theorem dX10_isRest_34 : decode cX10_isRest 34 = .ok (.iload 7, 2) := by decide +kernel
theorem dX10_isRest_36 : decode cX10_isRest 36 = .ok (.iload 4, 2) := by decide +kernel
theorem dX10_isRest_38 : decode cX10_isRest 38 = .ok (.iload 5, 2) := by decide +kernel
theorem dX10_isRest_40 : decode cX10_isRest 40 = .ok (.invokestatic 436, 3) := by decide +kernel
theorem dX10_isRest_43 : decode cX10_isRest 43 = .ok (.iload 6, 2) := by decide +kernel
theorem dX10_isRest_45 : decode cX10_isRest 45 = .ok (.iload 7, 2) := by decide +kernel
theorem dX10_isRest_47 : decode cX10_isRest 47 = .ok (.iconst 1, 1) := by decide +kernel
theorem dX10_isRest_48 : decode cX10_isRest 48 = .ok (.iload 4, 2) := by decide +kernel
theorem dX10_isRest_50 : decode cX10_isRest 50 = .ok (.isub, 1) := by decide +kernel
theorem dX10_isRest_51 : decode cX10_isRest 51 = .ok (.iload 5, 2) := by decide +kernel
theorem dX10_isRest_53 : decode cX10_isRest 53 = .ok (.invokestatic 436, 3) := by decide +kernel
theorem dX10_isRest_56 : decode cX10_isRest 56 = .ok (.if_icmp .lt 34, 3) := by decide +kernel
theorem dX10_isRest_59 : decode cX10_isRest 59 = .ok (.iload 7, 2) := by decide +kernel
theorem dX10_isRest_61 : decode cX10_isRest 61 = .ok (.iload 6, 2) := by decide +kernel
theorem dX10_isRest_63 : decode cX10_isRest 63 = .ok (.iload 5, 2) := by decide +kernel
theorem dX10_isRest_65 : decode cX10_isRest 65 = .ok (.iload 4, 2) := by decide +kernel
theorem dX10_isRest_67 : decode cX10_isRest 67 = .ok (.invokestatic 436, 3) := by decide +kernel
theorem dX10_isRest_70 : decode cX10_isRest 70 = .ok (.iload 7, 2) := by decide +kernel
theorem dX10_isRest_72 : decode cX10_isRest 72 = .ok (.iload 6, 2) := by decide +kernel
theorem dX10_isRest_74 : decode cX10_isRest 74 = .ok (.iconst 1, 1) := by decide +kernel
theorem dX10_isRest_75 : decode cX10_isRest 75 = .ok (.iload 5, 2) := by decide +kernel
theorem dX10_isRest_77 : decode cX10_isRest 77 = .ok (.isub, 1) := by decide +kernel
theorem dX10_isRest_78 : decode cX10_isRest 78 = .ok (.iload 4, 2) := by decide +kernel
theorem dX10_isRest_80 : decode cX10_isRest 80 = .ok (.invokestatic 436, 3) := by decide +kernel
theorem dX10_isRest_83 : decode cX10_isRest 83 = .ok (.if_icmp .lt 7, 3) := by decide +kernel
theorem dX10_isRest_86 : decode cX10_isRest 86 = .ok (.iconst 1, 1) := by decide +kernel
theorem dX10_isRest_87 : decode cX10_isRest 87 = .ok (.goto 4, 3) := by decide +kernel
theorem dX10_isRest_90 : decode cX10_isRest 90 = .ok (.iconst 0, 1) := by decide +kernel
theorem dX10_isRest_91 : decode cX10_isRest 91 = .ok (.ireturn, 1) := by decide +kernel
theorem dX10_keeperHas_0 : decode cX10_keeperHas 0 = .ok (.iload_n 2, 1) := by decide +kernel
theorem dX10_keeperHas_1 : decode cX10_keeperHas 1 = .ok (.ifCond .ne 16, 3) := by decide +kernel
theorem dX10_keeperHas_4 : decode cX10_keeperHas 4 = .ok (.iload_n 3, 1) := by decide +kernel
theorem dX10_keeperHas_5 : decode cX10_keeperHas 5 = .ok (.ifCond .ne 10, 3) := by decide +kernel
theorem dX10_keeperHas_8 : decode cX10_keeperHas 8 = .ok (.iload_n 1, 1) := by decide +kernel
theorem dX10_keeperHas_9 : decode cX10_keeperHas 9 = .ok (.bipush 10, 2) := by decide +kernel
theorem dX10_keeperHas_11 : decode cX10_keeperHas 11 = .ok (.idiv, 1) := by decide +kernel
theorem dX10_keeperHas_12 : decode cX10_keeperHas 12 = .ok (.goto 4, 3) := by decide +kernel
theorem dX10_keeperHas_15 : decode cX10_keeperHas 15 = .ok (.iconst 1, 1) := by decide +kernel
theorem dX10_keeperHas_16 : decode cX10_keeperHas 16 = .ok (.ireturn, 1) := by decide +kernel
theorem dX10_keeperHas_17 : decode cX10_keeperHas 17 = .ok (.iload_n 3, 1) := by decide +kernel
theorem dX10_keeperHas_18 : decode cX10_keeperHas 18 = .ok (.ifCond .ne 12, 3) := by decide +kernel
theorem dX10_keeperHas_21 : decode cX10_keeperHas 21 = .ok (.iload_n 0, 1) := by decide +kernel
theorem dX10_keeperHas_22 : decode cX10_keeperHas 22 = .ok (.bipush 10, 2) := by decide +kernel
theorem dX10_keeperHas_24 : decode cX10_keeperHas 24 = .ok (.idiv, 1) := by decide +kernel
theorem dX10_keeperHas_25 : decode cX10_keeperHas 25 = .ok (.iconst 2, 1) := by decide +kernel
theorem dX10_keeperHas_26 : decode cX10_keeperHas 26 = .ok (.iadd, 1) := by decide +kernel
theorem dX10_keeperHas_27 : decode cX10_keeperHas 27 = .ok (.goto 7, 3) := by decide +kernel
theorem dX10_keeperHas_30 : decode cX10_keeperHas 30 = .ok (.iload_n 0, 1) := by decide +kernel
theorem dX10_keeperHas_31 : decode cX10_keeperHas 31 = .ok (.bipush 20, 2) := by decide +kernel
theorem dX10_keeperHas_33 : decode cX10_keeperHas 33 = .ok (.idiv, 1) := by decide +kernel
theorem dX10_keeperHas_34 : decode cX10_keeperHas 34 = .ok (.ireturn, 1) := by decide +kernel
theorem dX10_weigh_0 : decode cX10_weigh 0 = .ok (.iconst 0, 1) := by decide +kernel
theorem dX10_weigh_1 : decode cX10_weigh 1 = .ok (.istore_n 3, 1) := by decide +kernel
theorem dX10_weigh_2 : decode cX10_weigh 2 = .ok (.aload_n 0, 1) := by decide +kernel
theorem dX10_weigh_3 : decode cX10_weigh 3 = .ok (.getfield 43, 3) := by decide +kernel
theorem dX10_weigh_6 : decode cX10_weigh 6 = .ok (.invokevirtual 186, 3) := by decide +kernel
theorem dX10_weigh_9 : decode cX10_weigh 9 = .ok (.aload_n 0, 1) := by decide +kernel
theorem dX10_weigh_10 : decode cX10_weigh 10 = .ok (.getfield 43, 3) := by decide +kernel
theorem dX10_weigh_13 : decode cX10_weigh 13 = .ok (.iload_n 1, 1) := by decide +kernel
theorem dX10_weigh_14 : decode cX10_weigh 14 = .ok (.putfield 439, 3) := by decide +kernel
theorem dX10_weigh_17 : decode cX10_weigh 17 = .ok (.iconst 0, 1) := by decide +kernel
theorem dX10_weigh_18 : decode cX10_weigh 18 = .ok (.istore 4, 2) := by decide +kernel
theorem dX10_weigh_20 : decode cX10_weigh 20 = .ok (.iload 4, 2) := by decide +kernel
theorem dX10_weigh_22 : decode cX10_weigh 22 = .ok (.bipush 10, 2) := by decide +kernel
theorem dX10_weigh_24 : decode cX10_weigh 24 = .ok (.if_icmp .ge 125, 3) := by decide +kernel
theorem dX10_weigh_27 : decode cX10_weigh 27 = .ok (.iconst 1, 1) := by decide +kernel
theorem dX10_weigh_28 : decode cX10_weigh 28 = .ok (.istore 5, 2) := by decide +kernel
theorem dX10_weigh_30 : decode cX10_weigh 30 = .ok (.aload_n 0, 1) := by decide +kernel
theorem dX10_weigh_31 : decode cX10_weigh 31 = .ok (.getfield 43, 3) := by decide +kernel
theorem dX10_weigh_34 : decode cX10_weigh 34 = .ok (.iload 4, 2) := by decide +kernel
theorem dX10_weigh_36 : decode cX10_weigh 36 = .ok (.putfield 442, 3) := by decide +kernel
theorem dX10_weigh_39 : decode cX10_weigh 39 = .ok (.aload_n 0, 1) := by decide +kernel
theorem dX10_weigh_40 : decode cX10_weigh 40 = .ok (.getfield 37, 3) := by decide +kernel
theorem dX10_weigh_43 : decode cX10_weigh 43 = .ok (.aload_n 0, 1) := by decide +kernel
theorem dX10_weigh_44 : decode cX10_weigh 44 = .ok (.getfield 21, 3) := by decide +kernel
theorem dX10_weigh_47 : decode cX10_weigh 47 = .ok (.invokevirtual 106, 3) := by decide +kernel
theorem dX10_weigh_50 : decode cX10_weigh 50 = .ok (.iconst 1, 1) := by decide +kernel
theorem dX10_weigh_51 : decode cX10_weigh 51 = .ok (.istore 6, 2) := by decide +kernel
theorem dX10_weigh_53 : decode cX10_weigh 53 = .ok (.iload 6, 2) := by decide +kernel
theorem dX10_weigh_55 : decode cX10_weigh 55 = .ok (.iload_n 2, 1) := by decide +kernel
theorem dX10_weigh_56 : decode cX10_weigh 56 = .ok (.if_icmp .gt 75, 3) := by decide +kernel
theorem dX10_weigh_59 : decode cX10_weigh 59 = .ok (.aload_n 0, 1) := by decide +kernel
theorem dX10_weigh_60 : decode cX10_weigh 60 = .ok (.getfield 43, 3) := by decide +kernel
theorem dX10_weigh_63 : decode cX10_weigh 63 = .ok (.aload_n 0, 1) := by decide +kernel
theorem dX10_weigh_64 : decode cX10_weigh 64 = .ok (.getfield 37, 3) := by decide +kernel
theorem dX10_weigh_67 : decode cX10_weigh 67 = .ok (.invokevirtual 290, 3) := by decide +kernel
theorem dX10_weigh_70 : decode cX10_weigh 70 = .ok (.iload 5, 2) := by decide +kernel
theorem dX10_weigh_72 : decode cX10_weigh 72 = .ok (.ifCond .eq 26, 3) := by decide +kernel
theorem dX10_weigh_75 : decode cX10_weigh 75 = .ok (.aload_n 0, 1) := by decide +kernel
theorem dX10_weigh_76 : decode cX10_weigh 76 = .ok (.getfield 57, 3) := by decide +kernel
theorem dX10_weigh_79 : decode cX10_weigh 79 = .ok (.iload 6, 2) := by decide +kernel
theorem dX10_weigh_81 : decode cX10_weigh 81 = .ok (.aload_n 0, 1) := by decide +kernel
theorem dX10_weigh_82 : decode cX10_weigh 82 = .ok (.getfield 37, 3) := by decide +kernel
theorem dX10_weigh_85 : decode cX10_weigh 85 = .ok (.getfield 141, 3) := by decide +kernel
theorem dX10_weigh_88 : decode cX10_weigh 88 = .ok (.invokevirtual 445, 3) := by decide +kernel
theorem dX10_weigh_91 : decode cX10_weigh 91 = .ok (.ifCond .eq 7, 3) := by decide +kernel
theorem dX10_weigh_94 : decode cX10_weigh 94 = .ok (.iconst 1, 1) := by decide +kernel
theorem dX10_weigh_95 : decode cX10_weigh 95 = .ok (.goto 4, 3) := by decide +kernel
theorem dX10_weigh_98 : decode cX10_weigh 98 = .ok (.iconst 0, 1) := by decide +kernel
theorem dX10_weigh_99 : decode cX10_weigh 99 = .ok (.istore 5, 2) := by decide +kernel
theorem dX10_weigh_101 : decode cX10_weigh 101 = .ok (.aload_n 0, 1) := by decide +kernel
theorem dX10_weigh_102 : decode cX10_weigh 102 = .ok (.getfield 68, 3) := by decide +kernel
theorem dX10_weigh_105 : decode cX10_weigh 105 = .ok (.iload 4, 2) := by decide +kernel
theorem dX10_weigh_107 : decode cX10_weigh 107 = .ok (.bipush 60, 2) := by decide +kernel
theorem dX10_weigh_109 : decode cX10_weigh 109 = .ok (.imul, 1) := by decide +kernel
theorem dX10_weigh_110 : decode cX10_weigh 110 = .ok (.iload 6, 2) := by decide +kernel
theorem dX10_weigh_112 : decode cX10_weigh 112 = .ok (.iadd, 1) := by decide +kernel
theorem dX10_weigh_113 : decode cX10_weigh 113 = .ok (.iconst 1, 1) := by decide +kernel
theorem dX10_weigh_114 : decode cX10_weigh 114 = .ok (.isub, 1) := by decide +kernel
theorem dX10_weigh_115 : decode cX10_weigh 115 = .ok (.aload_n 0, 1) := by decide +kernel
theorem dX10_weigh_116 : decode cX10_weigh 116 = .ok (.getfield 37, 3) := by decide +kernel
theorem dX10_weigh_119 : decode cX10_weigh 119 = .ok (.getfield 141, 3) := by decide +kernel
theorem dX10_weigh_122 : decode cX10_weigh 122 = .ok (.iload_n 1, 1) := by decide +kernel
theorem dX10_weigh_123 : decode cX10_weigh 123 = .ok (.iaload, 1) := by decide +kernel
theorem dX10_weigh_124 : decode cX10_weigh 124 = .ok (.iastore, 1) := by decide +kernel
theorem dX10_weigh_125 : decode cX10_weigh 125 = .ok (.iinc 6 1, 3) := by decide +kernel
theorem dX10_weigh_128 : decode cX10_weigh 128 = .ok (.goto (-75), 3) := by decide +kernel
theorem dX10_weigh_131 : decode cX10_weigh 131 = .ok (.iload 5, 2) := by decide +kernel
theorem dX10_weigh_133 : decode cX10_weigh 133 = .ok (.ifCond .eq 10, 3) := by decide +kernel
theorem dX10_weigh_136 : decode cX10_weigh 136 = .ok (.iload_n 3, 1) := by decide +kernel
theorem dX10_weigh_137 : decode cX10_weigh 137 = .ok (.iconst 1, 1) := by decide +kernel
theorem dX10_weigh_138 : decode cX10_weigh 138 = .ok (.iload 4, 2) := by decide +kernel
theorem dX10_weigh_140 : decode cX10_weigh 140 = .ok (.ishl, 1) := by decide +kernel
theorem dX10_weigh_141 : decode cX10_weigh 141 = .ok (.ior, 1) := by decide +kernel
theorem dX10_weigh_142 : decode cX10_weigh 142 = .ok (.istore_n 3, 1) := by decide +kernel
theorem dX10_weigh_143 : decode cX10_weigh 143 = .ok (.iinc 4 1, 3) := by decide +kernel
theorem dX10_weigh_146 : decode cX10_weigh 146 = .ok (.goto (-126), 3) := by decide +kernel
theorem dX10_weigh_149 : decode cX10_weigh 149 = .ok (.iload_n 3, 1) := by decide +kernel
theorem dX10_weigh_150 : decode cX10_weigh 150 = .ok (.ireturn, 1) := by decide +kernel
theorem dX10_leftAtWorst_0 : decode cX10_leftAtWorst 0 = .ok (.iconst 0, 1) := by decide +kernel
theorem dX10_leftAtWorst_1 : decode cX10_leftAtWorst 1 = .ok (.istore_n 3, 1) := by decide +kernel
theorem dX10_leftAtWorst_2 : decode cX10_leftAtWorst 2 = .ok (.iconst 0, 1) := by decide +kernel
theorem dX10_leftAtWorst_3 : decode cX10_leftAtWorst 3 = .ok (.istore 4, 2) := by decide +kernel
theorem dX10_leftAtWorst_5 : decode cX10_leftAtWorst 5 = .ok (.iload 4, 2) := by decide +kernel
theorem dX10_leftAtWorst_7 : decode cX10_leftAtWorst 7 = .ok (.bipush 10, 2) := by decide +kernel
theorem dX10_leftAtWorst_9 : decode cX10_leftAtWorst 9 = .ok (.if_icmp .ge 84, 3) := by decide +kernel
theorem dX10_leftAtWorst_12 : decode cX10_leftAtWorst 12 = .ok (.iconst 0, 1) := by decide +kernel
theorem dX10_leftAtWorst_13 : decode cX10_leftAtWorst 13 = .ok (.istore 5, 2) := by decide +kernel
theorem dX10_leftAtWorst_15 : decode cX10_leftAtWorst 15 = .ok (.iconst 0, 1) := by decide +kernel
theorem dX10_leftAtWorst_16 : decode cX10_leftAtWorst 16 = .ok (.istore 6, 2) := by decide +kernel
theorem dX10_leftAtWorst_18 : decode cX10_leftAtWorst 18 = .ok (.iload 6, 2) := by decide +kernel
theorem dX10_leftAtWorst_20 : decode cX10_leftAtWorst 20 = .ok (.bipush 10, 2) := by decide +kernel
theorem dX10_leftAtWorst_22 : decode cX10_leftAtWorst 22 = .ok (.if_icmp .ge 58, 3) := by decide +kernel
theorem dX10_leftAtWorst_25 : decode cX10_leftAtWorst 25 = .ok (.iload_n 1, 1) := by decide +kernel
theorem dX10_leftAtWorst_26 : decode cX10_leftAtWorst 26 = .ok (.iload 4, 2) := by decide +kernel
theorem dX10_leftAtWorst_28 : decode cX10_leftAtWorst 28 = .ok (.ishr, 1) := by decide +kernel
theorem dX10_leftAtWorst_29 : decode cX10_leftAtWorst 29 = .ok (.iload_n 1, 1) := by decide +kernel
theorem dX10_leftAtWorst_30 : decode cX10_leftAtWorst 30 = .ok (.iload 6, 2) := by decide +kernel
theorem dX10_leftAtWorst_32 : decode cX10_leftAtWorst 32 = .ok (.ishr, 1) := by decide +kernel
theorem dX10_leftAtWorst_33 : decode cX10_leftAtWorst 33 = .ok (.iand, 1) := by decide +kernel
theorem dX10_leftAtWorst_34 : decode cX10_leftAtWorst 34 = .ok (.iconst 1, 1) := by decide +kernel
theorem dX10_leftAtWorst_35 : decode cX10_leftAtWorst 35 = .ok (.iand, 1) := by decide +kernel
theorem dX10_leftAtWorst_36 : decode cX10_leftAtWorst 36 = .ok (.iconst 1, 1) := by decide +kernel
theorem dX10_leftAtWorst_37 : decode cX10_leftAtWorst 37 = .ok (.if_icmp .ne 37, 3) := by decide +kernel
theorem dX10_leftAtWorst_40 : decode cX10_leftAtWorst 40 = .ok (.aload_n 0, 1) := by decide +kernel
theorem dX10_leftAtWorst_41 : decode cX10_leftAtWorst 41 = .ok (.getfield 68, 3) := by decide +kernel
theorem dX10_leftAtWorst_44 : decode cX10_leftAtWorst 44 = .ok (.iload 4, 2) := by decide +kernel
theorem dX10_leftAtWorst_46 : decode cX10_leftAtWorst 46 = .ok (.bipush 60, 2) := by decide +kernel
theorem dX10_leftAtWorst_48 : decode cX10_leftAtWorst 48 = .ok (.imul, 1) := by decide +kernel
theorem dX10_leftAtWorst_49 : decode cX10_leftAtWorst 49 = .ok (.iload_n 2, 1) := by decide +kernel
theorem dX10_leftAtWorst_50 : decode cX10_leftAtWorst 50 = .ok (.iadd, 1) := by decide +kernel
theorem dX10_leftAtWorst_51 : decode cX10_leftAtWorst 51 = .ok (.iconst 1, 1) := by decide +kernel
theorem dX10_leftAtWorst_52 : decode cX10_leftAtWorst 52 = .ok (.isub, 1) := by decide +kernel
theorem dX10_leftAtWorst_53 : decode cX10_leftAtWorst 53 = .ok (.iaload, 1) := by decide +kernel
theorem dX10_leftAtWorst_54 : decode cX10_leftAtWorst 54 = .ok (.aload_n 0, 1) := by decide +kernel
theorem dX10_leftAtWorst_55 : decode cX10_leftAtWorst 55 = .ok (.getfield 68, 3) := by decide +kernel
theorem dX10_leftAtWorst_58 : decode cX10_leftAtWorst 58 = .ok (.iload 6, 2) := by decide +kernel
theorem dX10_leftAtWorst_60 : decode cX10_leftAtWorst 60 = .ok (.bipush 60, 2) := by decide +kernel
theorem dX10_leftAtWorst_62 : decode cX10_leftAtWorst 62 = .ok (.imul, 1) := by decide +kernel
theorem dX10_leftAtWorst_63 : decode cX10_leftAtWorst 63 = .ok (.iload_n 2, 1) := by decide +kernel
theorem dX10_leftAtWorst_64 : decode cX10_leftAtWorst 64 = .ok (.iadd, 1) := by decide +kernel
theorem dX10_leftAtWorst_65 : decode cX10_leftAtWorst 65 = .ok (.iconst 1, 1) := by decide +kernel
theorem dX10_leftAtWorst_66 : decode cX10_leftAtWorst 66 = .ok (.isub, 1) := by decide +kernel
theorem dX10_leftAtWorst_67 : decode cX10_leftAtWorst 67 = .ok (.iaload, 1) := by decide +kernel
theorem dX10_leftAtWorst_68 : decode cX10_leftAtWorst 68 = .ok (.if_icmp .ne 6, 3) := by decide +kernel
theorem dX10_leftAtWorst_71 : decode cX10_leftAtWorst 71 = .ok (.iinc 5 1, 3) := by decide +kernel
theorem dX10_leftAtWorst_74 : decode cX10_leftAtWorst 74 = .ok (.iinc 6 1, 3) := by decide +kernel
theorem dX10_leftAtWorst_77 : decode cX10_leftAtWorst 77 = .ok (.goto (-59), 3) := by decide +kernel
theorem dX10_leftAtWorst_80 : decode cX10_leftAtWorst 80 = .ok (.iload_n 3, 1) := by decide +kernel
theorem dX10_leftAtWorst_81 : decode cX10_leftAtWorst 81 = .ok (.iload 5, 2) := by decide +kernel
theorem dX10_leftAtWorst_83 : decode cX10_leftAtWorst 83 = .ok (.invokestatic 312, 3) := by decide +kernel
theorem dX10_leftAtWorst_86 : decode cX10_leftAtWorst 86 = .ok (.istore_n 3, 1) := by decide +kernel
theorem dX10_leftAtWorst_87 : decode cX10_leftAtWorst 87 = .ok (.iinc 4 1, 3) := by decide +kernel
theorem dX10_leftAtWorst_90 : decode cX10_leftAtWorst 90 = .ok (.goto (-85), 3) := by decide +kernel
theorem dX10_leftAtWorst_93 : decode cX10_leftAtWorst 93 = .ok (.iload_n 3, 1) := by decide +kernel
theorem dX10_leftAtWorst_94 : decode cX10_leftAtWorst 94 = .ok (.ireturn, 1) := by decide +kernel
theorem dJ11_isValidCodePoint_9a6ad_0 : decode cJ11_isValidCodePoint_9a6ad 0 = .ok (.iload_n 0, 1) := by decide +kernel
theorem dJ11_isValidCodePoint_9a6ad_1 : decode cJ11_isValidCodePoint_9a6ad 1 = .ok (.bipush 16, 2) := by decide +kernel
theorem dJ11_isValidCodePoint_9a6ad_3 : decode cJ11_isValidCodePoint_9a6ad 3 = .ok (.iushr, 1) := by decide +kernel
theorem dJ11_isValidCodePoint_9a6ad_4 : decode cJ11_isValidCodePoint_9a6ad 4 = .ok (.istore_n 1, 1) := by decide +kernel
theorem dJ11_isValidCodePoint_9a6ad_5 : decode cJ11_isValidCodePoint_9a6ad 5 = .ok (.iload_n 1, 1) := by decide +kernel
theorem dJ11_isValidCodePoint_9a6ad_6 : decode cJ11_isValidCodePoint_9a6ad 6 = .ok (.bipush 17, 2) := by decide +kernel
theorem dJ11_isValidCodePoint_9a6ad_8 : decode cJ11_isValidCodePoint_9a6ad 8 = .ok (.if_icmp .ge 7, 3) := by decide +kernel
theorem dJ11_isValidCodePoint_9a6ad_11 : decode cJ11_isValidCodePoint_9a6ad 11 = .ok (.iconst 1, 1) := by decide +kernel
theorem dJ11_isValidCodePoint_9a6ad_12 : decode cJ11_isValidCodePoint_9a6ad 12 = .ok (.goto 4, 3) := by decide +kernel
theorem dJ11_isValidCodePoint_9a6ad_15 : decode cJ11_isValidCodePoint_9a6ad 15 = .ok (.iconst 0, 1) := by decide +kernel
theorem dJ11_isValidCodePoint_9a6ad_16 : decode cJ11_isValidCodePoint_9a6ad 16 = .ok (.ireturn, 1) := by decide +kernel
theorem dJ11_highSurrogate_5068e_0 : decode cJ11_highSurrogate_5068e 0 = .ok (.iload_n 0, 1) := by decide +kernel
theorem dJ11_highSurrogate_5068e_1 : decode cJ11_highSurrogate_5068e 1 = .ok (.bipush 10, 2) := by decide +kernel
theorem dJ11_highSurrogate_5068e_3 : decode cJ11_highSurrogate_5068e 3 = .ok (.iushr, 1) := by decide +kernel
theorem dJ11_highSurrogate_5068e_4 : decode cJ11_highSurrogate_5068e 4 = .ok (.ldc 110, 2) := by decide +kernel
theorem dJ11_highSurrogate_5068e_6 : decode cJ11_highSurrogate_5068e 6 = .ok (.iadd, 1) := by decide +kernel
theorem dJ11_highSurrogate_5068e_7 : decode cJ11_highSurrogate_5068e 7 = .ok (.i2c, 1) := by decide +kernel
theorem dJ11_highSurrogate_5068e_8 : decode cJ11_highSurrogate_5068e 8 = .ok (.ireturn, 1) := by decide +kernel
theorem dJ11_lowSurrogate_5068e_0 : decode cJ11_lowSurrogate_5068e 0 = .ok (.iload_n 0, 1) := by decide +kernel
theorem dJ11_lowSurrogate_5068e_1 : decode cJ11_lowSurrogate_5068e 1 = .ok (.sipush 1023, 3) := by decide +kernel
theorem dJ11_lowSurrogate_5068e_4 : decode cJ11_lowSurrogate_5068e 4 = .ok (.iand, 1) := by decide +kernel
theorem dJ11_lowSurrogate_5068e_5 : decode cJ11_lowSurrogate_5068e 5 = .ok (.ldc 76, 2) := by decide +kernel
theorem dJ11_lowSurrogate_5068e_7 : decode cJ11_lowSurrogate_5068e 7 = .ok (.iadd, 1) := by decide +kernel
theorem dJ11_lowSurrogate_5068e_8 : decode cJ11_lowSurrogate_5068e 8 = .ok (.i2c, 1) := by decide +kernel
theorem dJ11_lowSurrogate_5068e_9 : decode cJ11_lowSurrogate_5068e 9 = .ok (.ireturn, 1) := by decide +kernel
theorem dJ6_bitCount_0f7a4_0 : decode cJ6_bitCount_0f7a4 0 = .ok (.iload_n 0, 1) := by decide +kernel
theorem dJ6_bitCount_0f7a4_1 : decode cJ6_bitCount_0f7a4 1 = .ok (.iload_n 0, 1) := by decide +kernel
theorem dJ6_bitCount_0f7a4_2 : decode cJ6_bitCount_0f7a4 2 = .ok (.iconst 1, 1) := by decide +kernel
theorem dJ6_bitCount_0f7a4_3 : decode cJ6_bitCount_0f7a4 3 = .ok (.iushr, 1) := by decide +kernel
theorem dJ6_bitCount_0f7a4_4 : decode cJ6_bitCount_0f7a4 4 = .ok (.ldc_w 265, 3) := by decide +kernel
theorem dJ6_bitCount_0f7a4_7 : decode cJ6_bitCount_0f7a4 7 = .ok (.iand, 1) := by decide +kernel
theorem dJ6_bitCount_0f7a4_8 : decode cJ6_bitCount_0f7a4 8 = .ok (.isub, 1) := by decide +kernel
theorem dJ6_bitCount_0f7a4_9 : decode cJ6_bitCount_0f7a4 9 = .ok (.istore_n 0, 1) := by decide +kernel
theorem dJ6_bitCount_0f7a4_10 : decode cJ6_bitCount_0f7a4 10 = .ok (.iload_n 0, 1) := by decide +kernel
theorem dJ6_bitCount_0f7a4_11 : decode cJ6_bitCount_0f7a4 11 = .ok (.ldc_w 266, 3) := by decide +kernel
theorem dJ6_bitCount_0f7a4_14 : decode cJ6_bitCount_0f7a4 14 = .ok (.iand, 1) := by decide +kernel
theorem dJ6_bitCount_0f7a4_15 : decode cJ6_bitCount_0f7a4 15 = .ok (.iload_n 0, 1) := by decide +kernel
theorem dJ6_bitCount_0f7a4_16 : decode cJ6_bitCount_0f7a4 16 = .ok (.iconst 2, 1) := by decide +kernel
theorem dJ6_bitCount_0f7a4_17 : decode cJ6_bitCount_0f7a4 17 = .ok (.iushr, 1) := by decide +kernel
theorem dJ6_bitCount_0f7a4_18 : decode cJ6_bitCount_0f7a4 18 = .ok (.ldc_w 266, 3) := by decide +kernel
theorem dJ6_bitCount_0f7a4_21 : decode cJ6_bitCount_0f7a4 21 = .ok (.iand, 1) := by decide +kernel
theorem dJ6_bitCount_0f7a4_22 : decode cJ6_bitCount_0f7a4 22 = .ok (.iadd, 1) := by decide +kernel
theorem dJ6_bitCount_0f7a4_23 : decode cJ6_bitCount_0f7a4 23 = .ok (.istore_n 0, 1) := by decide +kernel
theorem dJ6_bitCount_0f7a4_24 : decode cJ6_bitCount_0f7a4 24 = .ok (.iload_n 0, 1) := by decide +kernel
theorem dJ6_bitCount_0f7a4_25 : decode cJ6_bitCount_0f7a4 25 = .ok (.iload_n 0, 1) := by decide +kernel
theorem dJ6_bitCount_0f7a4_26 : decode cJ6_bitCount_0f7a4 26 = .ok (.iconst 4, 1) := by decide +kernel
theorem dJ6_bitCount_0f7a4_27 : decode cJ6_bitCount_0f7a4 27 = .ok (.iushr, 1) := by decide +kernel
theorem dJ6_bitCount_0f7a4_28 : decode cJ6_bitCount_0f7a4 28 = .ok (.iadd, 1) := by decide +kernel
theorem dJ6_bitCount_0f7a4_29 : decode cJ6_bitCount_0f7a4 29 = .ok (.ldc_w 267, 3) := by decide +kernel
theorem dJ6_bitCount_0f7a4_32 : decode cJ6_bitCount_0f7a4 32 = .ok (.iand, 1) := by decide +kernel
theorem dJ6_bitCount_0f7a4_33 : decode cJ6_bitCount_0f7a4 33 = .ok (.istore_n 0, 1) := by decide +kernel
theorem dJ6_bitCount_0f7a4_34 : decode cJ6_bitCount_0f7a4 34 = .ok (.iload_n 0, 1) := by decide +kernel
theorem dJ6_bitCount_0f7a4_35 : decode cJ6_bitCount_0f7a4 35 = .ok (.iload_n 0, 1) := by decide +kernel
theorem dJ6_bitCount_0f7a4_36 : decode cJ6_bitCount_0f7a4 36 = .ok (.bipush 8, 2) := by decide +kernel
theorem dJ6_bitCount_0f7a4_38 : decode cJ6_bitCount_0f7a4 38 = .ok (.iushr, 1) := by decide +kernel
theorem dJ6_bitCount_0f7a4_39 : decode cJ6_bitCount_0f7a4 39 = .ok (.iadd, 1) := by decide +kernel
theorem dJ6_bitCount_0f7a4_40 : decode cJ6_bitCount_0f7a4 40 = .ok (.istore_n 0, 1) := by decide +kernel
theorem dJ6_bitCount_0f7a4_41 : decode cJ6_bitCount_0f7a4 41 = .ok (.iload_n 0, 1) := by decide +kernel
theorem dJ6_bitCount_0f7a4_42 : decode cJ6_bitCount_0f7a4 42 = .ok (.iload_n 0, 1) := by decide +kernel
theorem dJ6_bitCount_0f7a4_43 : decode cJ6_bitCount_0f7a4 43 = .ok (.bipush 16, 2) := by decide +kernel
theorem dJ6_bitCount_0f7a4_45 : decode cJ6_bitCount_0f7a4 45 = .ok (.iushr, 1) := by decide +kernel
theorem dJ6_bitCount_0f7a4_46 : decode cJ6_bitCount_0f7a4 46 = .ok (.iadd, 1) := by decide +kernel
theorem dJ6_bitCount_0f7a4_47 : decode cJ6_bitCount_0f7a4 47 = .ok (.istore_n 0, 1) := by decide +kernel
theorem dJ6_bitCount_0f7a4_48 : decode cJ6_bitCount_0f7a4 48 = .ok (.iload_n 0, 1) := by decide +kernel
theorem dJ6_bitCount_0f7a4_49 : decode cJ6_bitCount_0f7a4 49 = .ok (.bipush 63, 2) := by decide +kernel
theorem dJ6_bitCount_0f7a4_51 : decode cJ6_bitCount_0f7a4 51 = .ok (.iand, 1) := by decide +kernel
theorem dJ6_bitCount_0f7a4_52 : decode cJ6_bitCount_0f7a4 52 = .ok (.ireturn, 1) := by decide +kernel
theorem dJ9_abs_0f7a4_0 : decode cJ9_abs_0f7a4 0 = .ok (.iload_n 0, 1) := by decide +kernel
theorem dJ9_abs_0f7a4_1 : decode cJ9_abs_0f7a4 1 = .ok (.ifCond .ge 8, 3) := by decide +kernel
theorem dJ9_abs_0f7a4_4 : decode cJ9_abs_0f7a4 4 = .ok (.iload_n 0, 1) := by decide +kernel
theorem dJ9_abs_0f7a4_5 : decode cJ9_abs_0f7a4 5 = .ok (.ineg, 1) := by decide +kernel
theorem dJ9_abs_0f7a4_6 : decode cJ9_abs_0f7a4 6 = .ok (.goto 4, 3) := by decide +kernel
theorem dJ9_abs_0f7a4_9 : decode cJ9_abs_0f7a4 9 = .ok (.iload_n 0, 1) := by decide +kernel
theorem dJ9_abs_0f7a4_10 : decode cJ9_abs_0f7a4 10 = .ok (.ireturn, 1) := by decide +kernel
theorem dJ9_abs_067f4_0 : decode cJ9_abs_067f4 0 = .ok (.lload_n 0, 1) := by decide +kernel
theorem dJ9_abs_067f4_1 : decode cJ9_abs_067f4 1 = .ok (.lconst 0, 1) := by decide +kernel
theorem dJ9_abs_067f4_2 : decode cJ9_abs_067f4 2 = .ok (.lcmp, 1) := by decide +kernel
theorem dJ9_abs_067f4_3 : decode cJ9_abs_067f4 3 = .ok (.ifCond .ge 8, 3) := by decide +kernel
theorem dJ9_abs_067f4_6 : decode cJ9_abs_067f4 6 = .ok (.lload_n 0, 1) := by decide +kernel
theorem dJ9_abs_067f4_7 : decode cJ9_abs_067f4 7 = .ok (.lneg, 1) := by decide +kernel
theorem dJ9_abs_067f4_8 : decode cJ9_abs_067f4 8 = .ok (.goto 4, 3) := by decide +kernel
theorem dJ9_abs_067f4_11 : decode cJ9_abs_067f4 11 = .ok (.lload_n 0, 1) := by decide +kernel
theorem dJ9_abs_067f4_12 : decode cJ9_abs_067f4 12 = .ok (.lreturn, 1) := by decide +kernel
theorem dJ9_max_7cf53_0 : decode cJ9_max_7cf53 0 = .ok (.iload_n 0, 1) := by decide +kernel
theorem dJ9_max_7cf53_1 : decode cJ9_max_7cf53 1 = .ok (.iload_n 1, 1) := by decide +kernel
theorem dJ9_max_7cf53_2 : decode cJ9_max_7cf53 2 = .ok (.if_icmp .lt 7, 3) := by decide +kernel
theorem dJ9_max_7cf53_5 : decode cJ9_max_7cf53 5 = .ok (.iload_n 0, 1) := by decide +kernel
theorem dJ9_max_7cf53_6 : decode cJ9_max_7cf53 6 = .ok (.goto 4, 3) := by decide +kernel
theorem dJ9_max_7cf53_9 : decode cJ9_max_7cf53 9 = .ok (.iload_n 1, 1) := by decide +kernel
theorem dJ9_max_7cf53_10 : decode cJ9_max_7cf53 10 = .ok (.ireturn, 1) := by decide +kernel
theorem dJ9_max_f86c9_0 : decode cJ9_max_f86c9 0 = .ok (.lload_n 0, 1) := by decide +kernel
theorem dJ9_max_f86c9_1 : decode cJ9_max_f86c9 1 = .ok (.lload_n 2, 1) := by decide +kernel
theorem dJ9_max_f86c9_2 : decode cJ9_max_f86c9 2 = .ok (.lcmp, 1) := by decide +kernel
theorem dJ9_max_f86c9_3 : decode cJ9_max_f86c9 3 = .ok (.ifCond .lt 7, 3) := by decide +kernel
theorem dJ9_max_f86c9_6 : decode cJ9_max_f86c9 6 = .ok (.lload_n 0, 1) := by decide +kernel
theorem dJ9_max_f86c9_7 : decode cJ9_max_f86c9 7 = .ok (.goto 4, 3) := by decide +kernel
theorem dJ9_max_f86c9_10 : decode cJ9_max_f86c9 10 = .ok (.lload_n 2, 1) := by decide +kernel
theorem dJ9_max_f86c9_11 : decode cJ9_max_f86c9 11 = .ok (.lreturn, 1) := by decide +kernel
theorem dJ9_min_7cf53_0 : decode cJ9_min_7cf53 0 = .ok (.iload_n 0, 1) := by decide +kernel
theorem dJ9_min_7cf53_1 : decode cJ9_min_7cf53 1 = .ok (.iload_n 1, 1) := by decide +kernel
theorem dJ9_min_7cf53_2 : decode cJ9_min_7cf53 2 = .ok (.if_icmp .gt 7, 3) := by decide +kernel
theorem dJ9_min_7cf53_5 : decode cJ9_min_7cf53 5 = .ok (.iload_n 0, 1) := by decide +kernel
theorem dJ9_min_7cf53_6 : decode cJ9_min_7cf53 6 = .ok (.goto 4, 3) := by decide +kernel
theorem dJ9_min_7cf53_9 : decode cJ9_min_7cf53 9 = .ok (.iload_n 1, 1) := by decide +kernel
theorem dJ9_min_7cf53_10 : decode cJ9_min_7cf53 10 = .ok (.ireturn, 1) := by decide +kernel
theorem dJ9_min_f86c9_0 : decode cJ9_min_f86c9 0 = .ok (.lload_n 0, 1) := by decide +kernel
theorem dJ9_min_f86c9_1 : decode cJ9_min_f86c9 1 = .ok (.lload_n 2, 1) := by decide +kernel
theorem dJ9_min_f86c9_2 : decode cJ9_min_f86c9 2 = .ok (.lcmp, 1) := by decide +kernel
theorem dJ9_min_f86c9_3 : decode cJ9_min_f86c9 3 = .ok (.ifCond .gt 7, 3) := by decide +kernel
theorem dJ9_min_f86c9_6 : decode cJ9_min_f86c9 6 = .ok (.lload_n 0, 1) := by decide +kernel
theorem dJ9_min_f86c9_7 : decode cJ9_min_f86c9 7 = .ok (.goto 4, 3) := by decide +kernel
theorem dJ9_min_f86c9_10 : decode cJ9_min_f86c9 10 = .ok (.lload_n 2, 1) := by decide +kernel
theorem dJ9_min_f86c9_11 : decode cJ9_min_f86c9 11 = .ok (.lreturn, 1) := by decide +kernel
theorem dJ0_length_8abf5_0 : decode cJ0_length_8abf5 0 = .ok (.aload_n 0, 1) := by decide +kernel
theorem dJ0_length_8abf5_1 : decode cJ0_length_8abf5 1 = .ok (.getfield 9, 3) := by decide +kernel
theorem dJ0_length_8abf5_4 : decode cJ0_length_8abf5 4 = .ok (.arraylength, 1) := by decide +kernel
theorem dJ0_length_8abf5_5 : decode cJ0_length_8abf5 5 = .ok (.aload_n 0, 1) := by decide +kernel
theorem dJ0_length_8abf5_6 : decode cJ0_length_8abf5 6 = .ok (.invokevirtual 335, 3) := by decide +kernel
theorem dJ0_length_8abf5_9 : decode cJ0_length_8abf5 9 = .ok (.ishr, 1) := by decide +kernel
theorem dJ0_length_8abf5_10 : decode cJ0_length_8abf5 10 = .ok (.ireturn, 1) := by decide +kernel
theorem dJ0_charAt_5068e_0 : decode cJ0_charAt_5068e 0 = .ok (.aload_n 0, 1) := by decide +kernel
theorem dJ0_charAt_5068e_1 : decode cJ0_charAt_5068e 1 = .ok (.invokevirtual 492, 3) := by decide +kernel
theorem dJ0_charAt_5068e_4 : decode cJ0_charAt_5068e 4 = .ok (.ifCond .eq 12, 3) := by decide +kernel
theorem dJ0_charAt_5068e_7 : decode cJ0_charAt_5068e 7 = .ok (.aload_n 0, 1) := by decide +kernel
theorem dJ0_charAt_5068e_8 : decode cJ0_charAt_5068e 8 = .ok (.getfield 9, 3) := by decide +kernel
theorem dJ0_charAt_5068e_11 : decode cJ0_charAt_5068e 11 = .ok (.iload_n 1, 1) := by decide +kernel
theorem dJ0_charAt_5068e_12 : decode cJ0_charAt_5068e 12 = .ok (.invokestatic 495, 3) := by decide +kernel
theorem dJ0_charAt_5068e_15 : decode cJ0_charAt_5068e 15 = .ok (.ireturn, 1) := by decide +kernel
theorem dJ0_charAt_5068e_16 : decode cJ0_charAt_5068e 16 = .ok (.aload_n 0, 1) := by decide +kernel
theorem dJ0_charAt_5068e_17 : decode cJ0_charAt_5068e 17 = .ok (.getfield 9, 3) := by decide +kernel
theorem dJ0_charAt_5068e_20 : decode cJ0_charAt_5068e 20 = .ok (.iload_n 1, 1) := by decide +kernel
theorem dJ0_charAt_5068e_21 : decode cJ0_charAt_5068e 21 = .ok (.invokestatic 498, 3) := by decide +kernel
theorem dJ0_charAt_5068e_24 : decode cJ0_charAt_5068e 24 = .ok (.ireturn, 1) := by decide +kernel
theorem dJ0_indexOf_0f7a4_0 : decode cJ0_indexOf_0f7a4 0 = .ok (.aload_n 0, 1) := by decide +kernel
theorem dJ0_indexOf_0f7a4_1 : decode cJ0_indexOf_0f7a4 1 = .ok (.iload_n 1, 1) := by decide +kernel
theorem dJ0_indexOf_0f7a4_2 : decode cJ0_indexOf_0f7a4 2 = .ok (.iconst 0, 1) := by decide +kernel
theorem dJ0_indexOf_0f7a4_3 : decode cJ0_indexOf_0f7a4 3 = .ok (.invokevirtual 633, 3) := by decide +kernel
theorem dJ0_indexOf_0f7a4_6 : decode cJ0_indexOf_0f7a4 6 = .ok (.ireturn, 1) := by decide +kernel
theorem dJ0_indexOf_7cf53_0 : decode cJ0_indexOf_7cf53 0 = .ok (.aload_n 0, 1) := by decide +kernel
theorem dJ0_indexOf_7cf53_1 : decode cJ0_indexOf_7cf53 1 = .ok (.invokevirtual 492, 3) := by decide +kernel
theorem dJ0_indexOf_7cf53_4 : decode cJ0_indexOf_7cf53 4 = .ok (.ifCond .eq 19, 3) := by decide +kernel
theorem dJ0_indexOf_7cf53_7 : decode cJ0_indexOf_7cf53 7 = .ok (.aload_n 0, 1) := by decide +kernel
theorem dJ0_indexOf_7cf53_8 : decode cJ0_indexOf_7cf53 8 = .ok (.getfield 9, 3) := by decide +kernel
theorem dJ0_indexOf_7cf53_11 : decode cJ0_indexOf_7cf53 11 = .ok (.iload_n 1, 1) := by decide +kernel
theorem dJ0_indexOf_7cf53_12 : decode cJ0_indexOf_7cf53 12 = .ok (.iload_n 2, 1) := by decide +kernel
theorem dJ0_indexOf_7cf53_13 : decode cJ0_indexOf_7cf53 13 = .ok (.aload_n 0, 1) := by decide +kernel
theorem dJ0_indexOf_7cf53_14 : decode cJ0_indexOf_7cf53 14 = .ok (.invokevirtual 505, 3) := by decide +kernel
theorem dJ0_indexOf_7cf53_17 : decode cJ0_indexOf_7cf53 17 = .ok (.invokestatic 637, 3) := by decide +kernel
theorem dJ0_indexOf_7cf53_20 : decode cJ0_indexOf_7cf53 20 = .ok (.goto 16, 3) := by decide +kernel
theorem dJ0_indexOf_7cf53_23 : decode cJ0_indexOf_7cf53 23 = .ok (.aload_n 0, 1) := by decide +kernel
theorem dJ0_indexOf_7cf53_24 : decode cJ0_indexOf_7cf53 24 = .ok (.getfield 9, 3) := by decide +kernel
theorem dJ0_indexOf_7cf53_27 : decode cJ0_indexOf_7cf53 27 = .ok (.iload_n 1, 1) := by decide +kernel
theorem dJ0_indexOf_7cf53_28 : decode cJ0_indexOf_7cf53 28 = .ok (.iload_n 2, 1) := by decide +kernel
theorem dJ0_indexOf_7cf53_29 : decode cJ0_indexOf_7cf53 29 = .ok (.aload_n 0, 1) := by decide +kernel
theorem dJ0_indexOf_7cf53_30 : decode cJ0_indexOf_7cf53 30 = .ok (.invokevirtual 505, 3) := by decide +kernel
theorem dJ0_indexOf_7cf53_33 : decode cJ0_indexOf_7cf53 33 = .ok (.invokestatic 640, 3) := by decide +kernel
theorem dJ0_indexOf_7cf53_36 : decode cJ0_indexOf_7cf53 36 = .ok (.ireturn, 1) := by decide +kernel
theorem dJ0_coder_7d493_0 : decode cJ0_coder_7d493 0 = .ok (.getstatic 38, 3) := by decide +kernel
theorem dJ0_coder_7d493_3 : decode cJ0_coder_7d493 3 = .ok (.ifCond .eq 10, 3) := by decide +kernel
theorem dJ0_coder_7d493_6 : decode cJ0_coder_7d493 6 = .ok (.aload_n 0, 1) := by decide +kernel
theorem dJ0_coder_7d493_7 : decode cJ0_coder_7d493 7 = .ok (.getfield 15, 3) := by decide +kernel
theorem dJ0_coder_7d493_10 : decode cJ0_coder_7d493 10 = .ok (.goto 4, 3) := by decide +kernel
theorem dJ0_coder_7d493_13 : decode cJ0_coder_7d493 13 = .ok (.iconst 1, 1) := by decide +kernel
theorem dJ0_coder_7d493_14 : decode cJ0_coder_7d493 14 = .ok (.ireturn, 1) := by decide +kernel
theorem dJ0_isLatin1_aae02_0 : decode cJ0_isLatin1_aae02 0 = .ok (.getstatic 38, 3) := by decide +kernel
theorem dJ0_isLatin1_aae02_3 : decode cJ0_isLatin1_aae02 3 = .ok (.ifCond .eq 14, 3) := by decide +kernel
theorem dJ0_isLatin1_aae02_6 : decode cJ0_isLatin1_aae02 6 = .ok (.aload_n 0, 1) := by decide +kernel
theorem dJ0_isLatin1_aae02_7 : decode cJ0_isLatin1_aae02 7 = .ok (.getfield 15, 3) := by decide +kernel
theorem dJ0_isLatin1_aae02_10 : decode cJ0_isLatin1_aae02 10 = .ok (.ifCond .ne 7, 3) := by decide +kernel
theorem dJ0_isLatin1_aae02_13 : decode cJ0_isLatin1_aae02 13 = .ok (.iconst 1, 1) := by decide +kernel
theorem dJ0_isLatin1_aae02_14 : decode cJ0_isLatin1_aae02 14 = .ok (.goto 4, 3) := by decide +kernel
theorem dJ0_isLatin1_aae02_17 : decode cJ0_isLatin1_aae02 17 = .ok (.iconst 0, 1) := by decide +kernel
theorem dJ0_isLatin1_aae02_18 : decode cJ0_isLatin1_aae02 18 = .ok (.ireturn, 1) := by decide +kernel
theorem dJ0_checkIndex_df160_0 : decode cJ0_checkIndex_df160 0 = .ok (.iload_n 0, 1) := by decide +kernel
theorem dJ0_checkIndex_df160_1 : decode cJ0_checkIndex_df160 1 = .ok (.iload_n 1, 1) := by decide +kernel
theorem dJ0_checkIndex_df160_2 : decode cJ0_checkIndex_df160 2 = .ok (.getstatic 1053, 3) := by decide +kernel
theorem dJ0_checkIndex_df160_5 : decode cJ0_checkIndex_df160 5 = .ok (.invokestatic 1059, 3) := by decide +kernel
theorem dJ0_checkIndex_df160_8 : decode cJ0_checkIndex_df160 8 = .ok (.pop, 1) := by decide +kernel
theorem dJ0_checkIndex_df160_9 : decode cJ0_checkIndex_df160 9 = .ok (.return_, 1) := by decide +kernel
theorem dJ0_checkBoundsBeginEnd_23922_0 : decode cJ0_checkBoundsBeginEnd_23922 0 = .ok (.iload_n 0, 1) := by decide +kernel
theorem dJ0_checkBoundsBeginEnd_23922_1 : decode cJ0_checkBoundsBeginEnd_23922 1 = .ok (.iload_n 1, 1) := by decide +kernel
theorem dJ0_checkBoundsBeginEnd_23922_2 : decode cJ0_checkBoundsBeginEnd_23922 2 = .ok (.iload_n 2, 1) := by decide +kernel
theorem dJ0_checkBoundsBeginEnd_23922_3 : decode cJ0_checkBoundsBeginEnd_23922 3 = .ok (.getstatic 1053, 3) := by decide +kernel
theorem dJ0_checkBoundsBeginEnd_23922_6 : decode cJ0_checkBoundsBeginEnd_23922 6 = .ok (.invokestatic 1062, 3) := by decide +kernel
theorem dJ0_checkBoundsBeginEnd_23922_9 : decode cJ0_checkBoundsBeginEnd_23922 9 = .ok (.pop, 1) := by decide +kernel
theorem dJ0_checkBoundsBeginEnd_23922_10 : decode cJ0_checkBoundsBeginEnd_23922 10 = .ok (.return_, 1) := by decide +kernel
theorem dJ1_charAt_3b067_0 : decode cJ1_charAt_3b067 0 = .ok (.iload_n 1, 1) := by decide +kernel
theorem dJ1_charAt_3b067_1 : decode cJ1_charAt_3b067 1 = .ok (.aload_n 0, 1) := by decide +kernel
theorem dJ1_charAt_3b067_2 : decode cJ1_charAt_3b067 2 = .ok (.arraylength, 1) := by decide +kernel
theorem dJ1_charAt_3b067_3 : decode cJ1_charAt_3b067 3 = .ok (.invokestatic 9, 3) := by decide +kernel
theorem dJ1_charAt_3b067_6 : decode cJ1_charAt_3b067 6 = .ok (.aload_n 0, 1) := by decide +kernel
theorem dJ1_charAt_3b067_7 : decode cJ1_charAt_3b067 7 = .ok (.iload_n 1, 1) := by decide +kernel
theorem dJ1_charAt_3b067_8 : decode cJ1_charAt_3b067 8 = .ok (.baload, 1) := by decide +kernel
theorem dJ1_charAt_3b067_9 : decode cJ1_charAt_3b067 9 = .ok (.sipush 255, 3) := by decide +kernel
theorem dJ1_charAt_3b067_12 : decode cJ1_charAt_3b067 12 = .ok (.iand, 1) := by decide +kernel
theorem dJ1_charAt_3b067_13 : decode cJ1_charAt_3b067 13 = .ok (.i2c, 1) := by decide +kernel
theorem dJ1_charAt_3b067_14 : decode cJ1_charAt_3b067 14 = .ok (.ireturn, 1) := by decide +kernel
theorem dJ1_canEncode_9a6ad_0 : decode cJ1_canEncode_9a6ad 0 = .ok (.iload_n 0, 1) := by decide +kernel
theorem dJ1_canEncode_9a6ad_1 : decode cJ1_canEncode_9a6ad 1 = .ok (.ifCond .lt 14, 3) := by decide +kernel
theorem dJ1_canEncode_9a6ad_4 : decode cJ1_canEncode_9a6ad 4 = .ok (.iload_n 0, 1) := by decide +kernel
theorem dJ1_canEncode_9a6ad_5 : decode cJ1_canEncode_9a6ad 5 = .ok (.sipush 255, 3) := by decide +kernel
theorem dJ1_canEncode_9a6ad_8 : decode cJ1_canEncode_9a6ad 8 = .ok (.if_icmp .gt 7, 3) := by decide +kernel
theorem dJ1_canEncode_9a6ad_11 : decode cJ1_canEncode_9a6ad 11 = .ok (.iconst 1, 1) := by decide +kernel
theorem dJ1_canEncode_9a6ad_12 : decode cJ1_canEncode_9a6ad 12 = .ok (.goto 4, 3) := by decide +kernel
theorem dJ1_canEncode_9a6ad_15 : decode cJ1_canEncode_9a6ad 15 = .ok (.iconst 0, 1) := by decide +kernel
theorem dJ1_canEncode_9a6ad_16 : decode cJ1_canEncode_9a6ad 16 = .ok (.ireturn, 1) := by decide +kernel
theorem dJ1_indexOf_4cfef_0 : decode cJ1_indexOf_4cfef 0 = .ok (.iload_n 1, 1) := by decide +kernel
theorem dJ1_indexOf_4cfef_1 : decode cJ1_indexOf_4cfef 1 = .ok (.invokestatic 88, 3) := by decide +kernel
theorem dJ1_indexOf_4cfef_4 : decode cJ1_indexOf_4cfef 4 = .ok (.ifCond .ne 5, 3) := by decide +kernel
theorem dJ1_indexOf_4cfef_7 : decode cJ1_indexOf_4cfef 7 = .ok (.iconst (-1), 1) := by decide +kernel
theorem dJ1_indexOf_4cfef_8 : decode cJ1_indexOf_4cfef 8 = .ok (.ireturn, 1) := by decide +kernel
theorem dJ1_indexOf_4cfef_9 : decode cJ1_indexOf_4cfef 9 = .ok (.iload_n 2, 1) := by decide +kernel
theorem dJ1_indexOf_4cfef_10 : decode cJ1_indexOf_4cfef 10 = .ok (.iconst 0, 1) := by decide +kernel
theorem dJ1_indexOf_4cfef_11 : decode cJ1_indexOf_4cfef 11 = .ok (.invokestatic 92, 3) := by decide +kernel
theorem dJ1_indexOf_4cfef_14 : decode cJ1_indexOf_4cfef 14 = .ok (.istore_n 2, 1) := by decide +kernel
theorem dJ1_indexOf_4cfef_15 : decode cJ1_indexOf_4cfef 15 = .ok (.iload_n 3, 1) := by decide +kernel
theorem dJ1_indexOf_4cfef_16 : decode cJ1_indexOf_4cfef 16 = .ok (.aload_n 0, 1) := by decide +kernel
theorem dJ1_indexOf_4cfef_17 : decode cJ1_indexOf_4cfef 17 = .ok (.arraylength, 1) := by decide +kernel
theorem dJ1_indexOf_4cfef_18 : decode cJ1_indexOf_4cfef 18 = .ok (.invokestatic 38, 3) := by decide +kernel
theorem dJ1_indexOf_4cfef_21 : decode cJ1_indexOf_4cfef 21 = .ok (.istore_n 3, 1) := by decide +kernel
theorem dJ1_indexOf_4cfef_22 : decode cJ1_indexOf_4cfef 22 = .ok (.iload_n 2, 1) := by decide +kernel
theorem dJ1_indexOf_4cfef_23 : decode cJ1_indexOf_4cfef 23 = .ok (.iload_n 3, 1) := by decide +kernel
theorem dJ1_indexOf_4cfef_24 : decode cJ1_indexOf_4cfef 24 = .ok (.if_icmp .lt 5, 3) := by decide +kernel
theorem dJ1_indexOf_4cfef_27 : decode cJ1_indexOf_4cfef 27 = .ok (.iconst (-1), 1) := by decide +kernel
theorem dJ1_indexOf_4cfef_28 : decode cJ1_indexOf_4cfef 28 = .ok (.ireturn, 1) := by decide +kernel
theorem dJ1_indexOf_4cfef_29 : decode cJ1_indexOf_4cfef 29 = .ok (.aload_n 0, 1) := by decide +kernel
theorem dJ1_indexOf_4cfef_30 : decode cJ1_indexOf_4cfef 30 = .ok (.iload_n 1, 1) := by decide +kernel
theorem dJ1_indexOf_4cfef_31 : decode cJ1_indexOf_4cfef 31 = .ok (.iload_n 2, 1) := by decide +kernel
theorem dJ1_indexOf_4cfef_32 : decode cJ1_indexOf_4cfef 32 = .ok (.iload_n 3, 1) := by decide +kernel
theorem dJ1_indexOf_4cfef_33 : decode cJ1_indexOf_4cfef 33 = .ok (.invokestatic 95, 3) := by decide +kernel
theorem dJ1_indexOf_4cfef_36 : decode cJ1_indexOf_4cfef 36 = .ok (.ireturn, 1) := by decide +kernel
theorem dJ1_indexOfChar_4cfef_0 : decode cJ1_indexOfChar_4cfef 0 = .ok (.iload_n 1, 1) := by decide +kernel
theorem dJ1_indexOfChar_4cfef_1 : decode cJ1_indexOfChar_4cfef 1 = .ok (.i2b, 1) := by decide +kernel
theorem dJ1_indexOfChar_4cfef_2 : decode cJ1_indexOfChar_4cfef 2 = .ok (.istore 4, 2) := by decide +kernel
theorem dJ1_indexOfChar_4cfef_4 : decode cJ1_indexOfChar_4cfef 4 = .ok (.iload_n 2, 1) := by decide +kernel
theorem dJ1_indexOfChar_4cfef_5 : decode cJ1_indexOfChar_4cfef 5 = .ok (.istore 5, 2) := by decide +kernel
theorem dJ1_indexOfChar_4cfef_7 : decode cJ1_indexOfChar_4cfef 7 = .ok (.iload 5, 2) := by decide +kernel
theorem dJ1_indexOfChar_4cfef_9 : decode cJ1_indexOfChar_4cfef 9 = .ok (.iload_n 3, 1) := by decide +kernel
theorem dJ1_indexOfChar_4cfef_10 : decode cJ1_indexOfChar_4cfef 10 = .ok (.if_icmp .ge 21, 3) := by decide +kernel
theorem dJ1_indexOfChar_4cfef_13 : decode cJ1_indexOfChar_4cfef 13 = .ok (.aload_n 0, 1) := by decide +kernel
theorem dJ1_indexOfChar_4cfef_14 : decode cJ1_indexOfChar_4cfef 14 = .ok (.iload 5, 2) := by decide +kernel
theorem dJ1_indexOfChar_4cfef_16 : decode cJ1_indexOfChar_4cfef 16 = .ok (.baload, 1) := by decide +kernel
theorem dJ1_indexOfChar_4cfef_17 : decode cJ1_indexOfChar_4cfef 17 = .ok (.iload 4, 2) := by decide +kernel
theorem dJ1_indexOfChar_4cfef_19 : decode cJ1_indexOfChar_4cfef 19 = .ok (.if_icmp .ne 6, 3) := by decide +kernel
theorem dJ1_indexOfChar_4cfef_22 : decode cJ1_indexOfChar_4cfef 22 = .ok (.iload 5, 2) := by decide +kernel
theorem dJ1_indexOfChar_4cfef_24 : decode cJ1_indexOfChar_4cfef 24 = .ok (.ireturn, 1) := by decide +kernel
theorem dJ1_indexOfChar_4cfef_25 : decode cJ1_indexOfChar_4cfef 25 = .ok (.iinc 5 1, 3) := by decide +kernel
theorem dJ1_indexOfChar_4cfef_28 : decode cJ1_indexOfChar_4cfef 28 = .ok (.goto (-21), 3) := by decide +kernel
theorem dJ1_indexOfChar_4cfef_31 : decode cJ1_indexOfChar_4cfef 31 = .ok (.iconst (-1), 1) := by decide +kernel
theorem dJ1_indexOfChar_4cfef_32 : decode cJ1_indexOfChar_4cfef 32 = .ok (.ireturn, 1) := by decide +kernel
theorem dJ2_getChar_3b067_0 : decode cJ2_getChar_3b067 0 = .ok (.getstatic 44, 3) := by decide +kernel
theorem dJ2_getChar_3b067_3 : decode cJ2_getChar_3b067 3 = .ok (.ifCond .ne 25, 3) := by decide +kernel
theorem dJ2_getChar_3b067_6 : decode cJ2_getChar_3b067 6 = .ok (.iload_n 1, 1) := by decide +kernel
theorem dJ2_getChar_3b067_7 : decode cJ2_getChar_3b067 7 = .ok (.ifCond .lt 11, 3) := by decide +kernel
theorem dJ2_getChar_3b067_10 : decode cJ2_getChar_3b067 10 = .ok (.iload_n 1, 1) := by decide +kernel
theorem dJ2_getChar_3b067_11 : decode cJ2_getChar_3b067 11 = .ok (.aload_n 0, 1) := by decide +kernel
theorem dJ2_getChar_3b067_12 : decode cJ2_getChar_3b067 12 = .ok (.invokestatic 48, 3) := by decide +kernel
theorem dJ2_getChar_3b067_15 : decode cJ2_getChar_3b067 15 = .ok (.if_icmp .lt 13, 3) := by decide +kernel
theorem dJ2_getChar_3b067_18 : decode cJ2_getChar_3b067 18 = .ok (.new 52, 3) := by decide +kernel
theorem dJ2_getChar_3b067_21 : decode cJ2_getChar_3b067 21 = .ok (.dup, 1) := by decide +kernel
theorem dJ2_getChar_3b067_22 : decode cJ2_getChar_3b067 22 = .ok (.ldc 54, 2) := by decide +kernel
theorem dJ2_getChar_3b067_24 : decode cJ2_getChar_3b067 24 = .ok (.invokespecial 56, 3) := by decide +kernel
theorem dJ2_getChar_3b067_27 : decode cJ2_getChar_3b067 27 = .ok (.athrow, 1) := by decide +kernel
theorem dJ2_getChar_3b067_28 : decode cJ2_getChar_3b067 28 = .ok (.iload_n 1, 1) := by decide +kernel
theorem dJ2_getChar_3b067_29 : decode cJ2_getChar_3b067 29 = .ok (.iconst 1, 1) := by decide +kernel
theorem dJ2_getChar_3b067_30 : decode cJ2_getChar_3b067 30 = .ok (.ishl, 1) := by decide +kernel
theorem dJ2_getChar_3b067_31 : decode cJ2_getChar_3b067 31 = .ok (.istore_n 1, 1) := by decide +kernel
theorem dJ2_getChar_3b067_32 : decode cJ2_getChar_3b067 32 = .ok (.aload_n 0, 1) := by decide +kernel
theorem dJ2_getChar_3b067_33 : decode cJ2_getChar_3b067 33 = .ok (.iload_n 1, 1) := by decide +kernel
theorem dJ2_getChar_3b067_34 : decode cJ2_getChar_3b067 34 = .ok (.iinc 1 1, 3) := by decide +kernel
theorem dJ2_getChar_3b067_37 : decode cJ2_getChar_3b067 37 = .ok (.baload, 1) := by decide +kernel
theorem dJ2_getChar_3b067_38 : decode cJ2_getChar_3b067 38 = .ok (.sipush 255, 3) := by decide +kernel
theorem dJ2_getChar_3b067_41 : decode cJ2_getChar_3b067 41 = .ok (.iand, 1) := by decide +kernel
theorem dJ2_getChar_3b067_42 : decode cJ2_getChar_3b067 42 = .ok (.getstatic 59, 3) := by decide +kernel
theorem dJ2_getChar_3b067_45 : decode cJ2_getChar_3b067 45 = .ok (.ishl, 1) := by decide +kernel
theorem dJ2_getChar_3b067_46 : decode cJ2_getChar_3b067 46 = .ok (.aload_n 0, 1) := by decide +kernel
theorem dJ2_getChar_3b067_47 : decode cJ2_getChar_3b067 47 = .ok (.iload_n 1, 1) := by decide +kernel
theorem dJ2_getChar_3b067_48 : decode cJ2_getChar_3b067 48 = .ok (.baload, 1) := by decide +kernel
theorem dJ2_getChar_3b067_49 : decode cJ2_getChar_3b067 49 = .ok (.sipush 255, 3) := by decide +kernel
theorem dJ2_getChar_3b067_52 : decode cJ2_getChar_3b067 52 = .ok (.iand, 1) := by decide +kernel
theorem dJ2_getChar_3b067_53 : decode cJ2_getChar_3b067 53 = .ok (.getstatic 63, 3) := by decide +kernel
theorem dJ2_getChar_3b067_56 : decode cJ2_getChar_3b067 56 = .ok (.ishl, 1) := by decide +kernel
theorem dJ2_getChar_3b067_57 : decode cJ2_getChar_3b067 57 = .ok (.ior, 1) := by decide +kernel
theorem dJ2_getChar_3b067_58 : decode cJ2_getChar_3b067 58 = .ok (.i2c, 1) := by decide +kernel
theorem dJ2_getChar_3b067_59 : decode cJ2_getChar_3b067 59 = .ok (.ireturn, 1) := by decide +kernel
theorem dJ2_length_9d52b_0 : decode cJ2_length_9d52b 0 = .ok (.aload_n 0, 1) := by decide +kernel
theorem dJ2_length_9d52b_1 : decode cJ2_length_9d52b 1 = .ok (.arraylength, 1) := by decide +kernel
theorem dJ2_length_9d52b_2 : decode cJ2_length_9d52b 2 = .ok (.iconst 1, 1) := by decide +kernel
theorem dJ2_length_9d52b_3 : decode cJ2_length_9d52b 3 = .ok (.ishr, 1) := by decide +kernel
theorem dJ2_length_9d52b_4 : decode cJ2_length_9d52b 4 = .ok (.ireturn, 1) := by decide +kernel
theorem dJ2_indexOf_4cfef_0 : decode cJ2_indexOf_4cfef 0 = .ok (.iload_n 2, 1) := by decide +kernel
theorem dJ2_indexOf_4cfef_1 : decode cJ2_indexOf_4cfef 1 = .ok (.iconst 0, 1) := by decide +kernel
theorem dJ2_indexOf_4cfef_2 : decode cJ2_indexOf_4cfef 2 = .ok (.invokestatic 224, 3) := by decide +kernel
theorem dJ2_indexOf_4cfef_5 : decode cJ2_indexOf_4cfef 5 = .ok (.istore_n 2, 1) := by decide +kernel
theorem dJ2_indexOf_4cfef_6 : decode cJ2_indexOf_4cfef 6 = .ok (.iload_n 3, 1) := by decide +kernel
theorem dJ2_indexOf_4cfef_7 : decode cJ2_indexOf_4cfef 7 = .ok (.aload_n 0, 1) := by decide +kernel
theorem dJ2_indexOf_4cfef_8 : decode cJ2_indexOf_4cfef 8 = .ok (.arraylength, 1) := by decide +kernel
theorem dJ2_indexOf_4cfef_9 : decode cJ2_indexOf_4cfef 9 = .ok (.iconst 1, 1) := by decide +kernel
theorem dJ2_indexOf_4cfef_10 : decode cJ2_indexOf_4cfef 10 = .ok (.ishr, 1) := by decide +kernel
theorem dJ2_indexOf_4cfef_11 : decode cJ2_indexOf_4cfef 11 = .ok (.invokestatic 183, 3) := by decide +kernel
theorem dJ2_indexOf_4cfef_14 : decode cJ2_indexOf_4cfef 14 = .ok (.istore_n 3, 1) := by decide +kernel
theorem dJ2_indexOf_4cfef_15 : decode cJ2_indexOf_4cfef 15 = .ok (.iload_n 2, 1) := by decide +kernel
theorem dJ2_indexOf_4cfef_16 : decode cJ2_indexOf_4cfef 16 = .ok (.iload_n 3, 1) := by decide +kernel
theorem dJ2_indexOf_4cfef_17 : decode cJ2_indexOf_4cfef 17 = .ok (.if_icmp .lt 5, 3) := by decide +kernel
theorem dJ2_indexOf_4cfef_20 : decode cJ2_indexOf_4cfef 20 = .ok (.iconst (-1), 1) := by decide +kernel
theorem dJ2_indexOf_4cfef_21 : decode cJ2_indexOf_4cfef 21 = .ok (.ireturn, 1) := by decide +kernel
theorem dJ2_indexOf_4cfef_22 : decode cJ2_indexOf_4cfef 22 = .ok (.iload_n 1, 1) := by decide +kernel
theorem dJ2_indexOf_4cfef_23 : decode cJ2_indexOf_4cfef 23 = .ok (.ldc 227, 2) := by decide +kernel
theorem dJ2_indexOf_4cfef_25 : decode cJ2_indexOf_4cfef 25 = .ok (.if_icmp .ge 11, 3) := by decide +kernel
theorem dJ2_indexOf_4cfef_28 : decode cJ2_indexOf_4cfef 28 = .ok (.aload_n 0, 1) := by decide +kernel
theorem dJ2_indexOf_4cfef_29 : decode cJ2_indexOf_4cfef 29 = .ok (.iload_n 1, 1) := by decide +kernel
theorem dJ2_indexOf_4cfef_30 : decode cJ2_indexOf_4cfef 30 = .ok (.iload_n 2, 1) := by decide +kernel
theorem dJ2_indexOf_4cfef_31 : decode cJ2_indexOf_4cfef 31 = .ok (.iload_n 3, 1) := by decide +kernel
theorem dJ2_indexOf_4cfef_32 : decode cJ2_indexOf_4cfef 32 = .ok (.invokestatic 228, 3) := by decide +kernel
theorem dJ2_indexOf_4cfef_35 : decode cJ2_indexOf_4cfef 35 = .ok (.ireturn, 1) := by decide +kernel
theorem dJ2_indexOf_4cfef_36 : decode cJ2_indexOf_4cfef 36 = .ok (.aload_n 0, 1) := by decide +kernel
theorem dJ2_indexOf_4cfef_37 : decode cJ2_indexOf_4cfef 37 = .ok (.iload_n 1, 1) := by decide +kernel
theorem dJ2_indexOf_4cfef_38 : decode cJ2_indexOf_4cfef 38 = .ok (.iload_n 2, 1) := by decide +kernel
theorem dJ2_indexOf_4cfef_39 : decode cJ2_indexOf_4cfef 39 = .ok (.iload_n 3, 1) := by decide +kernel
theorem dJ2_indexOf_4cfef_40 : decode cJ2_indexOf_4cfef 40 = .ok (.invokestatic 232, 3) := by decide +kernel
theorem dJ2_indexOf_4cfef_43 : decode cJ2_indexOf_4cfef 43 = .ok (.ireturn, 1) := by decide +kernel
theorem dJ2_indexOfChar_4cfef_0 : decode cJ2_indexOfChar_4cfef 0 = .ok (.iload_n 2, 1) := by decide +kernel
theorem dJ2_indexOfChar_4cfef_1 : decode cJ2_indexOfChar_4cfef 1 = .ok (.iload_n 3, 1) := by decide +kernel
theorem dJ2_indexOfChar_4cfef_2 : decode cJ2_indexOfChar_4cfef 2 = .ok (.aload_n 0, 1) := by decide +kernel
theorem dJ2_indexOfChar_4cfef_3 : decode cJ2_indexOfChar_4cfef 3 = .ok (.invokestatic 96, 3) := by decide +kernel
theorem dJ2_indexOfChar_4cfef_6 : decode cJ2_indexOfChar_4cfef 6 = .ok (.aload_n 0, 1) := by decide +kernel
theorem dJ2_indexOfChar_4cfef_7 : decode cJ2_indexOfChar_4cfef 7 = .ok (.iload_n 1, 1) := by decide +kernel
theorem dJ2_indexOfChar_4cfef_8 : decode cJ2_indexOfChar_4cfef 8 = .ok (.iload_n 2, 1) := by decide +kernel
theorem dJ2_indexOfChar_4cfef_9 : decode cJ2_indexOfChar_4cfef 9 = .ok (.iload_n 3, 1) := by decide +kernel
theorem dJ2_indexOfChar_4cfef_10 : decode cJ2_indexOfChar_4cfef 10 = .ok (.invokestatic 244, 3) := by decide +kernel
theorem dJ2_indexOfChar_4cfef_13 : decode cJ2_indexOfChar_4cfef 13 = .ok (.ireturn, 1) := by decide +kernel
theorem dJ2_indexOfCharUnsafe_4cfef_0 : decode cJ2_indexOfCharUnsafe_4cfef 0 = .ok (.iload_n 2, 1) := by decide +kernel
theorem dJ2_indexOfCharUnsafe_4cfef_1 : decode cJ2_indexOfCharUnsafe_4cfef 1 = .ok (.istore 4, 2) := by decide +kernel
theorem dJ2_indexOfCharUnsafe_4cfef_3 : decode cJ2_indexOfCharUnsafe_4cfef 3 = .ok (.iload 4, 2) := by decide +kernel
theorem dJ2_indexOfCharUnsafe_4cfef_5 : decode cJ2_indexOfCharUnsafe_4cfef 5 = .ok (.iload_n 3, 1) := by decide +kernel
theorem dJ2_indexOfCharUnsafe_4cfef_6 : decode cJ2_indexOfCharUnsafe_4cfef 6 = .ok (.if_icmp .ge 22, 3) := by decide +kernel
theorem dJ2_indexOfCharUnsafe_4cfef_9 : decode cJ2_indexOfCharUnsafe_4cfef 9 = .ok (.aload_n 0, 1) := by decide +kernel
theorem dJ2_indexOfCharUnsafe_4cfef_10 : decode cJ2_indexOfCharUnsafe_4cfef 10 = .ok (.iload 4, 2) := by decide +kernel
theorem dJ2_indexOfCharUnsafe_4cfef_12 : decode cJ2_indexOfCharUnsafe_4cfef 12 = .ok (.invokestatic 71, 3) := by decide +kernel
theorem dJ2_indexOfCharUnsafe_4cfef_15 : decode cJ2_indexOfCharUnsafe_4cfef 15 = .ok (.iload_n 1, 1) := by decide +kernel
theorem dJ2_indexOfCharUnsafe_4cfef_16 : decode cJ2_indexOfCharUnsafe_4cfef 16 = .ok (.if_icmp .ne 6, 3) := by decide +kernel
theorem dJ2_indexOfCharUnsafe_4cfef_19 : decode cJ2_indexOfCharUnsafe_4cfef 19 = .ok (.iload 4, 2) := by decide +kernel
theorem dJ2_indexOfCharUnsafe_4cfef_21 : decode cJ2_indexOfCharUnsafe_4cfef 21 = .ok (.ireturn, 1) := by decide +kernel
theorem dJ2_indexOfCharUnsafe_4cfef_22 : decode cJ2_indexOfCharUnsafe_4cfef 22 = .ok (.iinc 4 1, 3) := by decide +kernel
theorem dJ2_indexOfCharUnsafe_4cfef_25 : decode cJ2_indexOfCharUnsafe_4cfef 25 = .ok (.goto (-22), 3) := by decide +kernel
theorem dJ2_indexOfCharUnsafe_4cfef_28 : decode cJ2_indexOfCharUnsafe_4cfef 28 = .ok (.iconst (-1), 1) := by decide +kernel
theorem dJ2_indexOfCharUnsafe_4cfef_29 : decode cJ2_indexOfCharUnsafe_4cfef 29 = .ok (.ireturn, 1) := by decide +kernel
theorem dJ2_indexOfSupplementary_4cfef_0 : decode cJ2_indexOfSupplementary_4cfef 0 = .ok (.iload_n 1, 1) := by decide +kernel
theorem dJ2_indexOfSupplementary_4cfef_1 : decode cJ2_indexOfSupplementary_4cfef 1 = .ok (.invokestatic 164, 3) := by decide +kernel
theorem dJ2_indexOfSupplementary_4cfef_4 : decode cJ2_indexOfSupplementary_4cfef 4 = .ok (.ifCond .eq 65, 3) := by decide +kernel
theorem dJ2_indexOfSupplementary_4cfef_7 : decode cJ2_indexOfSupplementary_4cfef 7 = .ok (.iload_n 1, 1) := by decide +kernel
theorem dJ2_indexOfSupplementary_4cfef_8 : decode cJ2_indexOfSupplementary_4cfef 8 = .ok (.invokestatic 157, 3) := by decide +kernel
theorem dJ2_indexOfSupplementary_4cfef_11 : decode cJ2_indexOfSupplementary_4cfef 11 = .ok (.istore 4, 2) := by decide +kernel
theorem dJ2_indexOfSupplementary_4cfef_13 : decode cJ2_indexOfSupplementary_4cfef 13 = .ok (.iload_n 1, 1) := by decide +kernel
theorem dJ2_indexOfSupplementary_4cfef_14 : decode cJ2_indexOfSupplementary_4cfef 14 = .ok (.invokestatic 161, 3) := by decide +kernel
theorem dJ2_indexOfSupplementary_4cfef_17 : decode cJ2_indexOfSupplementary_4cfef 17 = .ok (.istore 5, 2) := by decide +kernel
theorem dJ2_indexOfSupplementary_4cfef_19 : decode cJ2_indexOfSupplementary_4cfef 19 = .ok (.iload_n 2, 1) := by decide +kernel
theorem dJ2_indexOfSupplementary_4cfef_20 : decode cJ2_indexOfSupplementary_4cfef 20 = .ok (.iload_n 3, 1) := by decide +kernel
theorem dJ2_indexOfSupplementary_4cfef_21 : decode cJ2_indexOfSupplementary_4cfef 21 = .ok (.aload_n 0, 1) := by decide +kernel
theorem dJ2_indexOfSupplementary_4cfef_22 : decode cJ2_indexOfSupplementary_4cfef 22 = .ok (.invokestatic 96, 3) := by decide +kernel
theorem dJ2_indexOfSupplementary_4cfef_25 : decode cJ2_indexOfSupplementary_4cfef 25 = .ok (.iload_n 2, 1) := by decide +kernel
theorem dJ2_indexOfSupplementary_4cfef_26 : decode cJ2_indexOfSupplementary_4cfef 26 = .ok (.istore 6, 2) := by decide +kernel
theorem dJ2_indexOfSupplementary_4cfef_28 : decode cJ2_indexOfSupplementary_4cfef 28 = .ok (.iload 6, 2) := by decide +kernel
theorem dJ2_indexOfSupplementary_4cfef_30 : decode cJ2_indexOfSupplementary_4cfef 30 = .ok (.iload_n 3, 1) := by decide +kernel
theorem dJ2_indexOfSupplementary_4cfef_31 : decode cJ2_indexOfSupplementary_4cfef 31 = .ok (.iconst 1, 1) := by decide +kernel
theorem dJ2_indexOfSupplementary_4cfef_32 : decode cJ2_indexOfSupplementary_4cfef 32 = .ok (.isub, 1) := by decide +kernel
theorem dJ2_indexOfSupplementary_4cfef_33 : decode cJ2_indexOfSupplementary_4cfef 33 = .ok (.if_icmp .ge 36, 3) := by decide +kernel
theorem dJ2_indexOfSupplementary_4cfef_36 : decode cJ2_indexOfSupplementary_4cfef 36 = .ok (.aload_n 0, 1) := by decide +kernel
theorem dJ2_indexOfSupplementary_4cfef_37 : decode cJ2_indexOfSupplementary_4cfef 37 = .ok (.iload 6, 2) := by decide +kernel
theorem dJ2_indexOfSupplementary_4cfef_39 : decode cJ2_indexOfSupplementary_4cfef 39 = .ok (.invokestatic 71, 3) := by decide +kernel
theorem dJ2_indexOfSupplementary_4cfef_42 : decode cJ2_indexOfSupplementary_4cfef 42 = .ok (.iload 4, 2) := by decide +kernel
theorem dJ2_indexOfSupplementary_4cfef_44 : decode cJ2_indexOfSupplementary_4cfef 44 = .ok (.if_icmp .ne 19, 3) := by decide +kernel
theorem dJ2_indexOfSupplementary_4cfef_47 : decode cJ2_indexOfSupplementary_4cfef 47 = .ok (.aload_n 0, 1) := by decide +kernel
theorem dJ2_indexOfSupplementary_4cfef_48 : decode cJ2_indexOfSupplementary_4cfef 48 = .ok (.iload 6, 2) := by decide +kernel
theorem dJ2_indexOfSupplementary_4cfef_50 : decode cJ2_indexOfSupplementary_4cfef 50 = .ok (.iconst 1, 1) := by decide +kernel
theorem dJ2_indexOfSupplementary_4cfef_51 : decode cJ2_indexOfSupplementary_4cfef 51 = .ok (.iadd, 1) := by decide +kernel
theorem dJ2_indexOfSupplementary_4cfef_52 : decode cJ2_indexOfSupplementary_4cfef 52 = .ok (.invokestatic 71, 3) := by decide +kernel
theorem dJ2_indexOfSupplementary_4cfef_55 : decode cJ2_indexOfSupplementary_4cfef 55 = .ok (.iload 5, 2) := by decide +kernel
theorem dJ2_indexOfSupplementary_4cfef_57 : decode cJ2_indexOfSupplementary_4cfef 57 = .ok (.if_icmp .ne 6, 3) := by decide +kernel
theorem dJ2_indexOfSupplementary_4cfef_60 : decode cJ2_indexOfSupplementary_4cfef 60 = .ok (.iload 6, 2) := by decide +kernel
theorem dJ2_indexOfSupplementary_4cfef_62 : decode cJ2_indexOfSupplementary_4cfef 62 = .ok (.ireturn, 1) := by decide +kernel
theorem dJ2_indexOfSupplementary_4cfef_63 : decode cJ2_indexOfSupplementary_4cfef 63 = .ok (.iinc 6 1, 3) := by decide +kernel
theorem dJ2_indexOfSupplementary_4cfef_66 : decode cJ2_indexOfSupplementary_4cfef 66 = .ok (.goto (-38), 3) := by decide +kernel
theorem dJ2_indexOfSupplementary_4cfef_69 : decode cJ2_indexOfSupplementary_4cfef 69 = .ok (.iconst (-1), 1) := by decide +kernel
theorem dJ2_indexOfSupplementary_4cfef_70 : decode cJ2_indexOfSupplementary_4cfef 70 = .ok (.ireturn, 1) := by decide +kernel
theorem dJ2_charAt_3b067_0 : decode cJ2_charAt_3b067 0 = .ok (.iload_n 1, 1) := by decide +kernel
theorem dJ2_charAt_3b067_1 : decode cJ2_charAt_3b067 1 = .ok (.aload_n 0, 1) := by decide +kernel
theorem dJ2_charAt_3b067_2 : decode cJ2_charAt_3b067 2 = .ok (.invokestatic 67, 3) := by decide +kernel
theorem dJ2_charAt_3b067_5 : decode cJ2_charAt_3b067 5 = .ok (.aload_n 0, 1) := by decide +kernel
theorem dJ2_charAt_3b067_6 : decode cJ2_charAt_3b067 6 = .ok (.iload_n 1, 1) := by decide +kernel
theorem dJ2_charAt_3b067_7 : decode cJ2_charAt_3b067 7 = .ok (.invokestatic 71, 3) := by decide +kernel
theorem dJ2_charAt_3b067_10 : decode cJ2_charAt_3b067 10 = .ok (.ireturn, 1) := by decide +kernel
theorem dJ2_checkIndex_2214a_0 : decode cJ2_checkIndex_2214a 0 = .ok (.iload_n 0, 1) := by decide +kernel
theorem dJ2_checkIndex_2214a_1 : decode cJ2_checkIndex_2214a 1 = .ok (.aload_n 1, 1) := by decide +kernel
theorem dJ2_checkIndex_2214a_2 : decode cJ2_checkIndex_2214a 2 = .ok (.invokestatic 48, 3) := by decide +kernel
theorem dJ2_checkIndex_2214a_5 : decode cJ2_checkIndex_2214a 5 = .ok (.invokestatic 414, 3) := by decide +kernel
theorem dJ2_checkIndex_2214a_8 : decode cJ2_checkIndex_2214a 8 = .ok (.return_, 1) := by decide +kernel
theorem dJ2_checkBoundsBeginEnd_d044e_0 : decode cJ2_checkBoundsBeginEnd_d044e 0 = .ok (.iload_n 0, 1) := by decide +kernel
theorem dJ2_checkBoundsBeginEnd_d044e_1 : decode cJ2_checkBoundsBeginEnd_d044e 1 = .ok (.iload_n 1, 1) := by decide +kernel
theorem dJ2_checkBoundsBeginEnd_d044e_2 : decode cJ2_checkBoundsBeginEnd_d044e 2 = .ok (.aload_n 2, 1) := by decide +kernel
theorem dJ2_checkBoundsBeginEnd_d044e_3 : decode cJ2_checkBoundsBeginEnd_d044e 3 = .ok (.invokestatic 48, 3) := by decide +kernel
theorem dJ2_checkBoundsBeginEnd_d044e_6 : decode cJ2_checkBoundsBeginEnd_d044e 6 = .ok (.invokestatic 241, 3) := by decide +kernel
theorem dJ2_checkBoundsBeginEnd_d044e_9 : decode cJ2_checkBoundsBeginEnd_d044e 9 = .ok (.return_, 1) := by decide +kernel
theorem dJ3_checkIndex_8e157_0 : decode cJ3_checkIndex_8e157 0 = .ok (.iload_n 0, 1) := by decide +kernel
theorem dJ3_checkIndex_8e157_1 : decode cJ3_checkIndex_8e157 1 = .ok (.ifCond .lt 8, 3) := by decide +kernel
theorem dJ3_checkIndex_8e157_4 : decode cJ3_checkIndex_8e157 4 = .ok (.iload_n 0, 1) := by decide +kernel
theorem dJ3_checkIndex_8e157_5 : decode cJ3_checkIndex_8e157 5 = .ok (.iload_n 1, 1) := by decide +kernel
theorem dJ3_checkIndex_8e157_6 : decode cJ3_checkIndex_8e157 6 = .ok (.if_icmp .lt 10, 3) := by decide +kernel
theorem dJ3_checkIndex_8e157_9 : decode cJ3_checkIndex_8e157 9 = .ok (.aload_n 2, 1) := by decide +kernel
theorem dJ3_checkIndex_8e157_10 : decode cJ3_checkIndex_8e157 10 = .ok (.iload_n 0, 1) := by decide +kernel
theorem dJ3_checkIndex_8e157_11 : decode cJ3_checkIndex_8e157 11 = .ok (.iload_n 1, 1) := by decide +kernel
theorem dJ3_checkIndex_8e157_12 : decode cJ3_checkIndex_8e157 12 = .ok (.invokestatic 95, 3) := by decide +kernel
theorem dJ3_checkIndex_8e157_15 : decode cJ3_checkIndex_8e157 15 = .ok (.athrow, 1) := by decide +kernel
theorem dJ3_checkIndex_8e157_16 : decode cJ3_checkIndex_8e157 16 = .ok (.iload_n 0, 1) := by decide +kernel
theorem dJ3_checkIndex_8e157_17 : decode cJ3_checkIndex_8e157 17 = .ok (.ireturn, 1) := by decide +kernel
theorem dJ3_checkFromToIndex_8c36e_0 : decode cJ3_checkFromToIndex_8c36e 0 = .ok (.iload_n 0, 1) := by decide +kernel
theorem dJ3_checkFromToIndex_8c36e_1 : decode cJ3_checkFromToIndex_8c36e 1 = .ok (.ifCond .lt 13, 3) := by decide +kernel
theorem dJ3_checkFromToIndex_8c36e_4 : decode cJ3_checkFromToIndex_8c36e 4 = .ok (.iload_n 0, 1) := by decide +kernel
theorem dJ3_checkFromToIndex_8c36e_5 : decode cJ3_checkFromToIndex_8c36e 5 = .ok (.iload_n 1, 1) := by decide +kernel
theorem dJ3_checkFromToIndex_8c36e_6 : decode cJ3_checkFromToIndex_8c36e 6 = .ok (.if_icmp .gt 8, 3) := by decide +kernel
theorem dJ3_checkFromToIndex_8c36e_9 : decode cJ3_checkFromToIndex_8c36e 9 = .ok (.iload_n 1, 1) := by decide +kernel
theorem dJ3_checkFromToIndex_8c36e_10 : decode cJ3_checkFromToIndex_8c36e 10 = .ok (.iload_n 2, 1) := by decide +kernel
theorem dJ3_checkFromToIndex_8c36e_11 : decode cJ3_checkFromToIndex_8c36e 11 = .ok (.if_icmp .le 11, 3) := by decide +kernel
theorem dJ3_checkFromToIndex_8c36e_14 : decode cJ3_checkFromToIndex_8c36e 14 = .ok (.aload_n 3, 1) := by decide +kernel
theorem dJ3_checkFromToIndex_8c36e_15 : decode cJ3_checkFromToIndex_8c36e 15 = .ok (.iload_n 0, 1) := by decide +kernel
theorem dJ3_checkFromToIndex_8c36e_16 : decode cJ3_checkFromToIndex_8c36e 16 = .ok (.iload_n 1, 1) := by decide +kernel
theorem dJ3_checkFromToIndex_8c36e_17 : decode cJ3_checkFromToIndex_8c36e 17 = .ok (.iload_n 2, 1) := by decide +kernel
theorem dJ3_checkFromToIndex_8c36e_18 : decode cJ3_checkFromToIndex_8c36e 18 = .ok (.invokestatic 99, 3) := by decide +kernel
theorem dJ3_checkFromToIndex_8c36e_21 : decode cJ3_checkFromToIndex_8c36e 21 = .ok (.athrow, 1) := by decide +kernel
theorem dJ3_checkFromToIndex_8c36e_22 : decode cJ3_checkFromToIndex_8c36e 22 = .ok (.iload_n 0, 1) := by decide +kernel
theorem dJ3_checkFromToIndex_8c36e_23 : decode cJ3_checkFromToIndex_8c36e 23 = .ok (.ireturn, 1) := by decide +kernel
