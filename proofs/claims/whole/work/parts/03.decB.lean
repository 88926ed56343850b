theorem dX0_init_0 : decode cX0_init 0 = .ok (.aload_n 0, 1) := by decide +kernel
theorem dX0_init_1 : decode cX0_init 1 = .ok (.invokespecial 3, 3) := by decide +kernel
theorem dX0_init_4 : decode cX0_init 4 = .ok (.aload_n 0, 1) := by decide +kernel
theorem dX0_init_5 : decode cX0_init 5 = .ok (.bipush 7, 2) := by decide +kernel
theorem dX0_init_7 : decode cX0_init 7 = .ok (.newarray .int, 2) := by decide +kernel
theorem dX0_init_9 : decode cX0_init 9 = .ok (.putfield 9, 3) := by decide +kernel
theorem dX0_init_12 : decode cX0_init 12 = .ok (.aload_n 0, 1) := by decide +kernel
theorem dX0_init_13 : decode cX0_init 13 = .ok (.bipush 7, 2) := by decide +kernel
theorem dX0_init_15 : decode cX0_init 15 = .ok (.newarray .int, 2) := by decide +kernel
theorem dX0_init_17 : decode cX0_init 17 = .ok (.putfield 15, 3) := by decide +kernel
theorem dX0_init_20 : decode cX0_init 20 = .ok (.aload_n 0, 1) := by decide +kernel
theorem dX0_init_21 : decode cX0_init 21 = .ok (.bipush 7, 2) := by decide +kernel
theorem dX0_init_23 : decode cX0_init 23 = .ok (.newarray .int, 2) := by decide +kernel
theorem dX0_init_25 : decode cX0_init 25 = .ok (.putfield 18, 3) := by decide +kernel
theorem dX0_init_28 : decode cX0_init 28 = .ok (.aload_n 0, 1) := by decide +kernel
theorem dX0_init_29 : decode cX0_init 29 = .ok (.bipush 7, 2) := by decide +kernel
theorem dX0_init_31 : decode cX0_init 31 = .ok (.newarray .int, 2) := by decide +kernel
theorem dX0_init_33 : decode cX0_init 33 = .ok (.putfield 21, 3) := by decide +kernel
theorem dX0_init_36 : decode cX0_init 36 = .ok (.aload_n 0, 1) := by decide +kernel
theorem dX0_init_37 : decode cX0_init 37 = .ok (.bipush 7, 2) := by decide +kernel
theorem dX0_init_39 : decode cX0_init 39 = .ok (.newarray .int, 2) := by decide +kernel
theorem dX0_init_41 : decode cX0_init 41 = .ok (.putfield 24, 3) := by decide +kernel
theorem dX0_init_44 : decode cX0_init 44 = .ok (.aload_n 0, 1) := by decide +kernel
theorem dX0_init_45 : decode cX0_init 45 = .ok (.bipush 10, 2) := by decide +kernel
theorem dX0_init_47 : decode cX0_init 47 = .ok (.newarray .int, 2) := by decide +kernel
theorem dX0_init_49 : decode cX0_init 49 = .ok (.putfield 27, 3) := by decide +kernel
theorem dX0_init_52 : decode cX0_init 52 = .ok (.aload_n 0, 1) := by decide +kernel
theorem dX0_init_53 : decode cX0_init 53 = .ok (.bipush 10, 2) := by decide +kernel
theorem dX0_init_55 : decode cX0_init 55 = .ok (.newarray .int, 2) := by decide +kernel
theorem dX0_init_57 : decode cX0_init 57 = .ok (.putfield 30, 3) := by decide +kernel
theorem dX0_init_60 : decode cX0_init 60 = .ok (.aload_n 0, 1) := by decide +kernel
theorem dX0_init_61 : decode cX0_init 61 = .ok (.bipush 10, 2) := by decide +kernel
theorem dX0_init_63 : decode cX0_init 63 = .ok (.newarray .int, 2) := by decide +kernel
theorem dX0_init_65 : decode cX0_init 65 = .ok (.putfield 33, 3) := by decide +kernel
theorem dX0_init_68 : decode cX0_init 68 = .ok (.aload_n 0, 1) := by decide +kernel
theorem dX0_init_69 : decode cX0_init 69 = .ok (.bipush 119, 2) := by decide +kernel
theorem dX0_init_71 : decode cX0_init 71 = .ok (.newarray .int, 2) := by decide +kernel
theorem dX0_init_73 : decode cX0_init 73 = .ok (.putfield 36, 3) := by decide +kernel
theorem dX0_init_76 : decode cX0_init 76 = .ok (.aload_n 0, 1) := by decide +kernel
theorem dX0_init_77 : decode cX0_init 77 = .ok (.new 39, 3) := by decide +kernel
theorem dX0_init_80 : decode cX0_init 80 = .ok (.dup, 1) := by decide +kernel
theorem dX0_init_81 : decode cX0_init 81 = .ok (.invokespecial 41, 3) := by decide +kernel
theorem dX0_init_84 : decode cX0_init 84 = .ok (.putfield 42, 3) := by decide +kernel
theorem dX0_init_87 : decode cX0_init 87 = .ok (.aload_n 0, 1) := by decide +kernel
theorem dX0_init_88 : decode cX0_init 88 = .ok (.new 46, 3) := by decide +kernel
theorem dX0_init_91 : decode cX0_init 91 = .ok (.dup, 1) := by decide +kernel
theorem dX0_init_92 : decode cX0_init 92 = .ok (.invokespecial 48, 3) := by decide +kernel
theorem dX0_init_95 : decode cX0_init 95 = .ok (.putfield 49, 3) := by decide +kernel
theorem dX0_init_98 : decode cX0_init 98 = .ok (.return_, 1) := by decide +kernel
theorem dX0_clear_0 : decode cX0_clear 0 = .ok (.aload_n 0, 1) := by decide +kernel
theorem dX0_clear_1 : decode cX0_clear 1 = .ok (.iconst 0, 1) := by decide +kernel
theorem dX0_clear_2 : decode cX0_clear 2 = .ok (.putfield 53, 3) := by decide +kernel
theorem dX0_clear_5 : decode cX0_clear 5 = .ok (.aload_n 0, 1) := by decide +kernel
theorem dX0_clear_6 : decode cX0_clear 6 = .ok (.iconst 0, 1) := by decide +kernel
theorem dX0_clear_7 : decode cX0_clear 7 = .ok (.putfield 57, 3) := by decide +kernel
theorem dX0_clear_10 : decode cX0_clear 10 = .ok (.aload_n 0, 1) := by decide +kernel
theorem dX0_clear_11 : decode cX0_clear 11 = .ok (.iconst 0, 1) := by decide +kernel
theorem dX0_clear_12 : decode cX0_clear 12 = .ok (.putfield 60, 3) := by decide +kernel
theorem dX0_clear_15 : decode cX0_clear 15 = .ok (.iconst 0, 1) := by decide +kernel
theorem dX0_clear_16 : decode cX0_clear 16 = .ok (.istore_n 1, 1) := by decide +kernel
theorem dX0_clear_17 : decode cX0_clear 17 = .ok (.iload_n 1, 1) := by decide +kernel
theorem dX0_clear_18 : decode cX0_clear 18 = .ok (.bipush 119, 2) := by decide +kernel
theorem dX0_clear_20 : decode cX0_clear 20 = .ok (.if_icmp .ge 16, 3) := by decide +kernel
theorem dX0_clear_23 : decode cX0_clear 23 = .ok (.aload_n 0, 1) := by decide +kernel
theorem dX0_clear_24 : decode cX0_clear 24 = .ok (.getfield 36, 3) := by decide +kernel
theorem dX0_clear_27 : decode cX0_clear 27 = .ok (.iload_n 1, 1) := by decide +kernel
theorem dX0_clear_28 : decode cX0_clear 28 = .ok (.iconst 0, 1) := by decide +kernel
theorem dX0_clear_29 : decode cX0_clear 29 = .ok (.iastore, 1) := by decide +kernel
theorem dX0_clear_30 : decode cX0_clear 30 = .ok (.iinc 1 1, 3) := by decide +kernel
theorem dX0_clear_33 : decode cX0_clear 33 = .ok (.goto (-16), 3) := by decide +kernel
theorem dX0_clear_36 : decode cX0_clear 36 = .ok (.aload_n 0, 1) := by decide +kernel
theorem dX0_clear_37 : decode cX0_clear 37 = .ok (.iconst 0, 1) := by decide +kernel
theorem dX0_clear_38 : decode cX0_clear 38 = .ok (.putfield 63, 3) := by decide +kernel
theorem dX0_clear_41 : decode cX0_clear 41 = .ok (.aload_n 0, 1) := by decide +kernel
theorem dX0_clear_42 : decode cX0_clear 42 = .ok (.iconst 0, 1) := by decide +kernel
theorem dX0_clear_43 : decode cX0_clear 43 = .ok (.putfield 66, 3) := by decide +kernel
theorem dX0_clear_46 : decode cX0_clear 46 = .ok (.aload_n 0, 1) := by decide +kernel
theorem dX0_clear_47 : decode cX0_clear 47 = .ok (.getfield 42, 3) := by decide +kernel
theorem dX0_clear_50 : decode cX0_clear 50 = .ok (.invokevirtual 69, 3) := by decide +kernel
theorem dX0_clear_53 : decode cX0_clear 53 = .ok (.aload_n 0, 1) := by decide +kernel
theorem dX0_clear_54 : decode cX0_clear 54 = .ok (.getfield 49, 3) := by decide +kernel
theorem dX0_clear_57 : decode cX0_clear 57 = .ok (.invokevirtual 72, 3) := by decide +kernel
theorem dX0_clear_60 : decode cX0_clear 60 = .ok (.return_, 1) := by decide +kernel
theorem dX0_hasAllOf_0 : decode cX0_hasAllOf 0 = .ok (.iload_n 1, 1) := by decide +kernel
theorem dX0_hasAllOf_1 : decode cX0_hasAllOf 1 = .ok (.tableswitch 115 0 4 #[35, 50, 67, 82, 97], 35) := by decide +kernel
theorem dX0_hasAllOf_36 : decode cX0_hasAllOf 36 = .ok (.aload_n 0, 1) := by decide +kernel
theorem dX0_hasAllOf_37 : decode cX0_hasAllOf 37 = .ok (.getfield 53, 3) := by decide +kernel
theorem dX0_hasAllOf_40 : decode cX0_hasAllOf 40 = .ok (.bipush 7, 2) := by decide +kernel
theorem dX0_hasAllOf_42 : decode cX0_hasAllOf 42 = .ok (.if_icmp .lt 7, 3) := by decide +kernel
theorem dX0_hasAllOf_45 : decode cX0_hasAllOf 45 = .ok (.iconst 1, 1) := by decide +kernel
theorem dX0_hasAllOf_46 : decode cX0_hasAllOf 46 = .ok (.goto 4, 3) := by decide +kernel
theorem dX0_hasAllOf_49 : decode cX0_hasAllOf 49 = .ok (.iconst 0, 1) := by decide +kernel
theorem dX0_hasAllOf_50 : decode cX0_hasAllOf 50 = .ok (.ireturn, 1) := by decide +kernel
theorem dX0_hasAllOf_51 : decode cX0_hasAllOf 51 = .ok (.aload_n 0, 1) := by decide +kernel
theorem dX0_hasAllOf_52 : decode cX0_hasAllOf 52 = .ok (.getfield 42, 3) := by decide +kernel
theorem dX0_hasAllOf_55 : decode cX0_hasAllOf 55 = .ok (.getfield 73, 3) := by decide +kernel
theorem dX0_hasAllOf_58 : decode cX0_hasAllOf 58 = .ok (.iconst 3, 1) := by decide +kernel
theorem dX0_hasAllOf_59 : decode cX0_hasAllOf 59 = .ok (.if_icmp .lt 7, 3) := by decide +kernel
theorem dX0_hasAllOf_62 : decode cX0_hasAllOf 62 = .ok (.iconst 1, 1) := by decide +kernel
theorem dX0_hasAllOf_63 : decode cX0_hasAllOf 63 = .ok (.goto 4, 3) := by decide +kernel
theorem dX0_hasAllOf_66 : decode cX0_hasAllOf 66 = .ok (.iconst 0, 1) := by decide +kernel
theorem dX0_hasAllOf_67 : decode cX0_hasAllOf 67 = .ok (.ireturn, 1) := by decide +kernel
theorem dX0_hasAllOf_68 : decode cX0_hasAllOf 68 = .ok (.aload_n 0, 1) := by decide +kernel
theorem dX0_hasAllOf_69 : decode cX0_hasAllOf 69 = .ok (.getfield 57, 3) := by decide +kernel
theorem dX0_hasAllOf_72 : decode cX0_hasAllOf 72 = .ok (.bipush 10, 2) := by decide +kernel
theorem dX0_hasAllOf_74 : decode cX0_hasAllOf 74 = .ok (.if_icmp .lt 7, 3) := by decide +kernel
theorem dX0_hasAllOf_77 : decode cX0_hasAllOf 77 = .ok (.iconst 1, 1) := by decide +kernel
theorem dX0_hasAllOf_78 : decode cX0_hasAllOf 78 = .ok (.goto 4, 3) := by decide +kernel
theorem dX0_hasAllOf_81 : decode cX0_hasAllOf 81 = .ok (.iconst 0, 1) := by decide +kernel
theorem dX0_hasAllOf_82 : decode cX0_hasAllOf 82 = .ok (.ireturn, 1) := by decide +kernel
theorem dX0_hasAllOf_83 : decode cX0_hasAllOf 83 = .ok (.aload_n 0, 1) := by decide +kernel
theorem dX0_hasAllOf_84 : decode cX0_hasAllOf 84 = .ok (.getfield 60, 3) := by decide +kernel
theorem dX0_hasAllOf_87 : decode cX0_hasAllOf 87 = .ok (.bipush 12, 2) := by decide +kernel
theorem dX0_hasAllOf_89 : decode cX0_hasAllOf 89 = .ok (.if_icmp .lt 7, 3) := by decide +kernel
theorem dX0_hasAllOf_92 : decode cX0_hasAllOf 92 = .ok (.iconst 1, 1) := by decide +kernel
theorem dX0_hasAllOf_93 : decode cX0_hasAllOf 93 = .ok (.goto 4, 3) := by decide +kernel
theorem dX0_hasAllOf_96 : decode cX0_hasAllOf 96 = .ok (.iconst 0, 1) := by decide +kernel
theorem dX0_hasAllOf_97 : decode cX0_hasAllOf 97 = .ok (.ireturn, 1) := by decide +kernel
theorem dX0_hasAllOf_98 : decode cX0_hasAllOf 98 = .ok (.aload_n 0, 1) := by decide +kernel
theorem dX0_hasAllOf_99 : decode cX0_hasAllOf 99 = .ok (.getfield 42, 3) := by decide +kernel
theorem dX0_hasAllOf_102 : decode cX0_hasAllOf 102 = .ok (.getfield 76, 3) := by decide +kernel
theorem dX0_hasAllOf_105 : decode cX0_hasAllOf 105 = .ok (.bipush 8, 2) := by decide +kernel
theorem dX0_hasAllOf_107 : decode cX0_hasAllOf 107 = .ok (.if_icmp .lt 7, 3) := by decide +kernel
theorem dX0_hasAllOf_110 : decode cX0_hasAllOf 110 = .ok (.iconst 1, 1) := by decide +kernel
theorem dX0_hasAllOf_111 : decode cX0_hasAllOf 111 = .ok (.goto 4, 3) := by decide +kernel
theorem dX0_hasAllOf_114 : decode cX0_hasAllOf 114 = .ok (.iconst 0, 1) := by decide +kernel
theorem dX0_hasAllOf_115 : decode cX0_hasAllOf 115 = .ok (.ireturn, 1) := by decide +kernel
theorem dX0_hasAllOf_116 : decode cX0_hasAllOf 116 = .ok (.iconst 0, 1) := by decide +kernel
theorem dX0_hasAllOf_117 : decode cX0_hasAllOf 117 = .ok (.ireturn, 1) := by decide +kernel
theorem dX0_addPond_0 : decode cX0_addPond 0 = .ok (.aload_n 0, 1) := by decide +kernel
theorem dX0_addPond_1 : decode cX0_addPond 1 = .ok (.getfield 53, 3) := by decide +kernel
theorem dX0_addPond_4 : decode cX0_addPond 4 = .ok (.bipush 7, 2) := by decide +kernel
theorem dX0_addPond_6 : decode cX0_addPond 6 = .ok (.if_icmp .ge 64, 3) := by decide +kernel
theorem dX0_addPond_9 : decode cX0_addPond 9 = .ok (.aload_n 0, 1) := by decide +kernel
theorem dX0_addPond_10 : decode cX0_addPond 10 = .ok (.getfield 9, 3) := by decide +kernel
theorem dX0_addPond_13 : decode cX0_addPond 13 = .ok (.aload_n 0, 1) := by decide +kernel
theorem dX0_addPond_14 : decode cX0_addPond 14 = .ok (.getfield 53, 3) := by decide +kernel
theorem dX0_addPond_17 : decode cX0_addPond 17 = .ok (.iload_n 1, 1) := by decide +kernel
theorem dX0_addPond_18 : decode cX0_addPond 18 = .ok (.iastore, 1) := by decide +kernel
theorem dX0_addPond_19 : decode cX0_addPond 19 = .ok (.aload_n 0, 1) := by decide +kernel
theorem dX0_addPond_20 : decode cX0_addPond 20 = .ok (.getfield 15, 3) := by decide +kernel
theorem dX0_addPond_23 : decode cX0_addPond 23 = .ok (.aload_n 0, 1) := by decide +kernel
theorem dX0_addPond_24 : decode cX0_addPond 24 = .ok (.getfield 53, 3) := by decide +kernel
theorem dX0_addPond_27 : decode cX0_addPond 27 = .ok (.iload_n 2, 1) := by decide +kernel
theorem dX0_addPond_28 : decode cX0_addPond 28 = .ok (.iastore, 1) := by decide +kernel
theorem dX0_addPond_29 : decode cX0_addPond 29 = .ok (.aload_n 0, 1) := by decide +kernel
theorem dX0_addPond_30 : decode cX0_addPond 30 = .ok (.getfield 18, 3) := by decide +kernel
theorem dX0_addPond_33 : decode cX0_addPond 33 = .ok (.aload_n 0, 1) := by decide +kernel
theorem dX0_addPond_34 : decode cX0_addPond 34 = .ok (.getfield 53, 3) := by decide +kernel
theorem dX0_addPond_37 : decode cX0_addPond 37 = .ok (.iload_n 3, 1) := by decide +kernel
theorem dX0_addPond_38 : decode cX0_addPond 38 = .ok (.iastore, 1) := by decide +kernel
theorem dX0_addPond_39 : decode cX0_addPond 39 = .ok (.aload_n 0, 1) := by decide +kernel
theorem dX0_addPond_40 : decode cX0_addPond 40 = .ok (.getfield 21, 3) := by decide +kernel
theorem dX0_addPond_43 : decode cX0_addPond 43 = .ok (.aload_n 0, 1) := by decide +kernel
theorem dX0_addPond_44 : decode cX0_addPond 44 = .ok (.getfield 53, 3) := by decide +kernel
theorem dX0_addPond_47 : decode cX0_addPond 47 = .ok (.iload 4, 2) := by decide +kernel
theorem dX0_addPond_49 : decode cX0_addPond 49 = .ok (.iastore, 1) := by decide +kernel
theorem dX0_addPond_50 : decode cX0_addPond 50 = .ok (.aload_n 0, 1) := by decide +kernel
theorem dX0_addPond_51 : decode cX0_addPond 51 = .ok (.getfield 24, 3) := by decide +kernel
theorem dX0_addPond_54 : decode cX0_addPond 54 = .ok (.aload_n 0, 1) := by decide +kernel
theorem dX0_addPond_55 : decode cX0_addPond 55 = .ok (.getfield 53, 3) := by decide +kernel
theorem dX0_addPond_58 : decode cX0_addPond 58 = .ok (.iconst 0, 1) := by decide +kernel
theorem dX0_addPond_59 : decode cX0_addPond 59 = .ok (.iastore, 1) := by decide +kernel
theorem dX0_addPond_60 : decode cX0_addPond 60 = .ok (.aload_n 0, 1) := by decide +kernel
theorem dX0_addPond_61 : decode cX0_addPond 61 = .ok (.dup, 1) := by decide +kernel
theorem dX0_addPond_62 : decode cX0_addPond 62 = .ok (.getfield 53, 3) := by decide +kernel
theorem dX0_addPond_65 : decode cX0_addPond 65 = .ok (.iconst 1, 1) := by decide +kernel
theorem dX0_addPond_66 : decode cX0_addPond 66 = .ok (.iadd, 1) := by decide +kernel
theorem dX0_addPond_67 : decode cX0_addPond 67 = .ok (.putfield 53, 3) := by decide +kernel
theorem dX0_addPond_70 : decode cX0_addPond 70 = .ok (.return_, 1) := by decide +kernel
theorem dX0_addPipe_0 : decode cX0_addPipe 0 = .ok (.aload_n 0, 1) := by decide +kernel
theorem dX0_addPipe_1 : decode cX0_addPipe 1 = .ok (.getfield 57, 3) := by decide +kernel
theorem dX0_addPipe_4 : decode cX0_addPipe 4 = .ok (.bipush 10, 2) := by decide +kernel
theorem dX0_addPipe_6 : decode cX0_addPipe 6 = .ok (.if_icmp .ge 43, 3) := by decide +kernel
theorem dX0_addPipe_9 : decode cX0_addPipe 9 = .ok (.aload_n 0, 1) := by decide +kernel
theorem dX0_addPipe_10 : decode cX0_addPipe 10 = .ok (.getfield 27, 3) := by decide +kernel
theorem dX0_addPipe_13 : decode cX0_addPipe 13 = .ok (.aload_n 0, 1) := by decide +kernel
theorem dX0_addPipe_14 : decode cX0_addPipe 14 = .ok (.getfield 57, 3) := by decide +kernel
theorem dX0_addPipe_17 : decode cX0_addPipe 17 = .ok (.iload_n 1, 1) := by decide +kernel
theorem dX0_addPipe_18 : decode cX0_addPipe 18 = .ok (.iastore, 1) := by decide +kernel
theorem dX0_addPipe_19 : decode cX0_addPipe 19 = .ok (.aload_n 0, 1) := by decide +kernel
theorem dX0_addPipe_20 : decode cX0_addPipe 20 = .ok (.getfield 30, 3) := by decide +kernel
theorem dX0_addPipe_23 : decode cX0_addPipe 23 = .ok (.aload_n 0, 1) := by decide +kernel
theorem dX0_addPipe_24 : decode cX0_addPipe 24 = .ok (.getfield 57, 3) := by decide +kernel
theorem dX0_addPipe_27 : decode cX0_addPipe 27 = .ok (.iload_n 2, 1) := by decide +kernel
theorem dX0_addPipe_28 : decode cX0_addPipe 28 = .ok (.iastore, 1) := by decide +kernel
theorem dX0_addPipe_29 : decode cX0_addPipe 29 = .ok (.aload_n 0, 1) := by decide +kernel
theorem dX0_addPipe_30 : decode cX0_addPipe 30 = .ok (.getfield 33, 3) := by decide +kernel
theorem dX0_addPipe_33 : decode cX0_addPipe 33 = .ok (.aload_n 0, 1) := by decide +kernel
theorem dX0_addPipe_34 : decode cX0_addPipe 34 = .ok (.getfield 57, 3) := by decide +kernel
theorem dX0_addPipe_37 : decode cX0_addPipe 37 = .ok (.iload_n 3, 1) := by decide +kernel
theorem dX0_addPipe_38 : decode cX0_addPipe 38 = .ok (.iastore, 1) := by decide +kernel
theorem dX0_addPipe_39 : decode cX0_addPipe 39 = .ok (.aload_n 0, 1) := by decide +kernel
theorem dX0_addPipe_40 : decode cX0_addPipe 40 = .ok (.dup, 1) := by decide +kernel
theorem dX0_addPipe_41 : decode cX0_addPipe 41 = .ok (.getfield 57, 3) := by decide +kernel
theorem dX0_addPipe_44 : decode cX0_addPipe 44 = .ok (.iconst 1, 1) := by decide +kernel
theorem dX0_addPipe_45 : decode cX0_addPipe 45 = .ok (.iadd, 1) := by decide +kernel
theorem dX0_addPipe_46 : decode cX0_addPipe 46 = .ok (.putfield 57, 3) := by decide +kernel
theorem dX0_addPipe_49 : decode cX0_addPipe 49 = .ok (.return_, 1) := by decide +kernel
theorem dX0_addTurn_0 : decode cX0_addTurn 0 = .ok (.iload_n 2, 1) := by decide +kernel
theorem dX0_addTurn_1 : decode cX0_addTurn 1 = .ok (.istore 4, 2) := by decide +kernel
theorem dX0_addTurn_3 : decode cX0_addTurn 3 = .ok (.iload 4, 2) := by decide +kernel
theorem dX0_addTurn_5 : decode cX0_addTurn 5 = .ok (.iload_n 2, 1) := by decide +kernel
theorem dX0_addTurn_6 : decode cX0_addTurn 6 = .ok (.iload_n 3, 1) := by decide +kernel
theorem dX0_addTurn_7 : decode cX0_addTurn 7 = .ok (.iadd, 1) := by decide +kernel
theorem dX0_addTurn_8 : decode cX0_addTurn 8 = .ok (.if_icmp .ge 29, 3) := by decide +kernel
theorem dX0_addTurn_11 : decode cX0_addTurn 11 = .ok (.iload 4, 2) := by decide +kernel
theorem dX0_addTurn_13 : decode cX0_addTurn 13 = .ok (.bipush 119, 2) := by decide +kernel
theorem dX0_addTurn_15 : decode cX0_addTurn 15 = .ok (.if_icmp .ge 22, 3) := by decide +kernel
theorem dX0_addTurn_18 : decode cX0_addTurn 18 = .ok (.aload_n 0, 1) := by decide +kernel
theorem dX0_addTurn_19 : decode cX0_addTurn 19 = .ok (.getfield 36, 3) := by decide +kernel
theorem dX0_addTurn_22 : decode cX0_addTurn 22 = .ok (.iload 4, 2) := by decide +kernel
theorem dX0_addTurn_24 : decode cX0_addTurn 24 = .ok (.dup2, 1) := by decide +kernel
theorem dX0_addTurn_25 : decode cX0_addTurn 25 = .ok (.iaload, 1) := by decide +kernel
theorem dX0_addTurn_26 : decode cX0_addTurn 26 = .ok (.iconst 1, 1) := by decide +kernel
theorem dX0_addTurn_27 : decode cX0_addTurn 27 = .ok (.iload_n 1, 1) := by decide +kernel
theorem dX0_addTurn_28 : decode cX0_addTurn 28 = .ok (.ishl, 1) := by decide +kernel
theorem dX0_addTurn_29 : decode cX0_addTurn 29 = .ok (.ior, 1) := by decide +kernel
theorem dX0_addTurn_30 : decode cX0_addTurn 30 = .ok (.iastore, 1) := by decide +kernel
theorem dX0_addTurn_31 : decode cX0_addTurn 31 = .ok (.iinc 4 1, 3) := by decide +kernel
theorem dX0_addTurn_34 : decode cX0_addTurn 34 = .ok (.goto (-31), 3) := by decide +kernel
theorem dX0_addTurn_37 : decode cX0_addTurn 37 = .ok (.aload_n 0, 1) := by decide +kernel
theorem dX0_addTurn_38 : decode cX0_addTurn 38 = .ok (.dup, 1) := by decide +kernel
theorem dX0_addTurn_39 : decode cX0_addTurn 39 = .ok (.getfield 60, 3) := by decide +kernel
theorem dX0_addTurn_42 : decode cX0_addTurn 42 = .ok (.iconst 1, 1) := by decide +kernel
theorem dX0_addTurn_43 : decode cX0_addTurn 43 = .ok (.iadd, 1) := by decide +kernel
theorem dX0_addTurn_44 : decode cX0_addTurn 44 = .ok (.putfield 60, 3) := by decide +kernel
theorem dX0_addTurn_47 : decode cX0_addTurn 47 = .ok (.return_, 1) := by decide +kernel
theorem dX0_pondNamed_0 : decode cX0_pondNamed 0 = .ok (.iconst 0, 1) := by decide +kernel
theorem dX0_pondNamed_1 : decode cX0_pondNamed 1 = .ok (.istore_n 2, 1) := by decide +kernel
theorem dX0_pondNamed_2 : decode cX0_pondNamed 2 = .ok (.iload_n 2, 1) := by decide +kernel
theorem dX0_pondNamed_3 : decode cX0_pondNamed 3 = .ok (.aload_n 0, 1) := by decide +kernel
theorem dX0_pondNamed_4 : decode cX0_pondNamed 4 = .ok (.getfield 53, 3) := by decide +kernel
theorem dX0_pondNamed_7 : decode cX0_pondNamed 7 = .ok (.if_icmp .ge 21, 3) := by decide +kernel
theorem dX0_pondNamed_10 : decode cX0_pondNamed 10 = .ok (.aload_n 0, 1) := by decide +kernel
theorem dX0_pondNamed_11 : decode cX0_pondNamed 11 = .ok (.getfield 9, 3) := by decide +kernel
theorem dX0_pondNamed_14 : decode cX0_pondNamed 14 = .ok (.iload_n 2, 1) := by decide +kernel
theorem dX0_pondNamed_15 : decode cX0_pondNamed 15 = .ok (.iaload, 1) := by decide +kernel
theorem dX0_pondNamed_16 : decode cX0_pondNamed 16 = .ok (.iload_n 1, 1) := by decide +kernel
theorem dX0_pondNamed_17 : decode cX0_pondNamed 17 = .ok (.if_icmp .ne 5, 3) := by decide +kernel
theorem dX0_pondNamed_20 : decode cX0_pondNamed 20 = .ok (.iload_n 2, 1) := by decide +kernel
theorem dX0_pondNamed_21 : decode cX0_pondNamed 21 = .ok (.ireturn, 1) := by decide +kernel
theorem dX0_pondNamed_22 : decode cX0_pondNamed 22 = .ok (.iinc 2 1, 3) := by decide +kernel
theorem dX0_pondNamed_25 : decode cX0_pondNamed 25 = .ok (.goto (-23), 3) := by decide +kernel
theorem dX0_pondNamed_28 : decode cX0_pondNamed 28 = .ok (.iconst (-1), 1) := by decide +kernel
theorem dX0_pondNamed_29 : decode cX0_pondNamed 29 = .ok (.ireturn, 1) := by decide +kernel
theorem dX0_hasPipe_0 : decode cX0_hasPipe 0 = .ok (.iconst 0, 1) := by decide +kernel
theorem dX0_hasPipe_1 : decode cX0_hasPipe 1 = .ok (.istore_n 3, 1) := by decide +kernel
theorem dX0_hasPipe_2 : decode cX0_hasPipe 2 = .ok (.iload_n 3, 1) := by decide +kernel
theorem dX0_hasPipe_3 : decode cX0_hasPipe 3 = .ok (.aload_n 0, 1) := by decide +kernel
theorem dX0_hasPipe_4 : decode cX0_hasPipe 4 = .ok (.getfield 57, 3) := by decide +kernel
theorem dX0_hasPipe_7 : decode cX0_hasPipe 7 = .ok (.if_icmp .ge 51, 3) := by decide +kernel
theorem dX0_hasPipe_10 : decode cX0_hasPipe 10 = .ok (.aload_n 0, 1) := by decide +kernel
theorem dX0_hasPipe_11 : decode cX0_hasPipe 11 = .ok (.getfield 27, 3) := by decide +kernel
theorem dX0_hasPipe_14 : decode cX0_hasPipe 14 = .ok (.iload_n 3, 1) := by decide +kernel
theorem dX0_hasPipe_15 : decode cX0_hasPipe 15 = .ok (.iaload, 1) := by decide +kernel
theorem dX0_hasPipe_16 : decode cX0_hasPipe 16 = .ok (.iload_n 1, 1) := by decide +kernel
theorem dX0_hasPipe_17 : decode cX0_hasPipe 17 = .ok (.if_icmp .ne 13, 3) := by decide +kernel
theorem dX0_hasPipe_20 : decode cX0_hasPipe 20 = .ok (.aload_n 0, 1) := by decide +kernel
theorem dX0_hasPipe_21 : decode cX0_hasPipe 21 = .ok (.getfield 30, 3) := by decide +kernel
theorem dX0_hasPipe_24 : decode cX0_hasPipe 24 = .ok (.iload_n 3, 1) := by decide +kernel
theorem dX0_hasPipe_25 : decode cX0_hasPipe 25 = .ok (.iaload, 1) := by decide +kernel
theorem dX0_hasPipe_26 : decode cX0_hasPipe 26 = .ok (.iload_n 2, 1) := by decide +kernel
theorem dX0_hasPipe_27 : decode cX0_hasPipe 27 = .ok (.if_icmp .eq 23, 3) := by decide +kernel
theorem dX0_hasPipe_30 : decode cX0_hasPipe 30 = .ok (.aload_n 0, 1) := by decide +kernel
theorem dX0_hasPipe_31 : decode cX0_hasPipe 31 = .ok (.getfield 27, 3) := by decide +kernel
theorem dX0_hasPipe_34 : decode cX0_hasPipe 34 = .ok (.iload_n 3, 1) := by decide +kernel
theorem dX0_hasPipe_35 : decode cX0_hasPipe 35 = .ok (.iaload, 1) := by decide +kernel
theorem dX0_hasPipe_36 : decode cX0_hasPipe 36 = .ok (.iload_n 2, 1) := by decide +kernel
theorem dX0_hasPipe_37 : decode cX0_hasPipe 37 = .ok (.if_icmp .ne 15, 3) := by decide +kernel
theorem dX0_hasPipe_40 : decode cX0_hasPipe 40 = .ok (.aload_n 0, 1) := by decide +kernel
theorem dX0_hasPipe_41 : decode cX0_hasPipe 41 = .ok (.getfield 30, 3) := by decide +kernel
theorem dX0_hasPipe_44 : decode cX0_hasPipe 44 = .ok (.iload_n 3, 1) := by decide +kernel
theorem dX0_hasPipe_45 : decode cX0_hasPipe 45 = .ok (.iaload, 1) := by decide +kernel
theorem dX0_hasPipe_46 : decode cX0_hasPipe 46 = .ok (.iload_n 1, 1) := by decide +kernel
theorem dX0_hasPipe_47 : decode cX0_hasPipe 47 = .ok (.if_icmp .ne 5, 3) := by decide +kernel
theorem dX0_hasPipe_50 : decode cX0_hasPipe 50 = .ok (.iconst 1, 1) := by decide +kernel
theorem dX0_hasPipe_51 : decode cX0_hasPipe 51 = .ok (.ireturn, 1) := by decide +kernel
theorem dX0_hasPipe_52 : decode cX0_hasPipe 52 = .ok (.iinc 3 1, 3) := by decide +kernel
theorem dX0_hasPipe_55 : decode cX0_hasPipe 55 = .ok (.goto (-53), 3) := by decide +kernel
theorem dX0_hasPipe_58 : decode cX0_hasPipe 58 = .ok (.iconst 0, 1) := by decide +kernel
theorem dX0_hasPipe_59 : decode cX0_hasPipe 59 = .ok (.ireturn, 1) := by decide +kernel
theorem dX0_turnedIn_0 : decode cX0_turnedIn 0 = .ok (.iload_n 1, 1) := by decide +kernel
theorem dX0_turnedIn_1 : decode cX0_turnedIn 1 = .ok (.ifCond .lt 18, 3) := by decide +kernel
theorem dX0_turnedIn_4 : decode cX0_turnedIn 4 = .ok (.iload_n 1, 1) := by decide +kernel
theorem dX0_turnedIn_5 : decode cX0_turnedIn 5 = .ok (.bipush 119, 2) := by decide +kernel
theorem dX0_turnedIn_7 : decode cX0_turnedIn 7 = .ok (.if_icmp .ge 12, 3) := by decide +kernel
theorem dX0_turnedIn_10 : decode cX0_turnedIn 10 = .ok (.aload_n 0, 1) := by decide +kernel
theorem dX0_turnedIn_11 : decode cX0_turnedIn 11 = .ok (.getfield 36, 3) := by decide +kernel
theorem dX0_turnedIn_14 : decode cX0_turnedIn 14 = .ok (.iload_n 1, 1) := by decide +kernel
theorem dX0_turnedIn_15 : decode cX0_turnedIn 15 = .ok (.iaload, 1) := by decide +kernel
theorem dX0_turnedIn_16 : decode cX0_turnedIn 16 = .ok (.goto 4, 3) := by decide +kernel
theorem dX0_turnedIn_19 : decode cX0_turnedIn 19 = .ok (.iconst 0, 1) := by decide +kernel
theorem dX0_turnedIn_20 : decode cX0_turnedIn 20 = .ok (.ireturn, 1) := by decide +kernel
theorem dX0_allPonds_0 : decode cX0_allPonds 0 = .ok (.iconst 1, 1) := by decide +kernel
theorem dX0_allPonds_1 : decode cX0_allPonds 1 = .ok (.aload_n 0, 1) := by decide +kernel
theorem dX0_allPonds_2 : decode cX0_allPonds 2 = .ok (.getfield 53, 3) := by decide +kernel
theorem dX0_allPonds_5 : decode cX0_allPonds 5 = .ok (.ishl, 1) := by decide +kernel
theorem dX0_allPonds_6 : decode cX0_allPonds 6 = .ok (.iconst 1, 1) := by decide +kernel
theorem dX0_allPonds_7 : decode cX0_allPonds 7 = .ok (.isub, 1) := by decide +kernel
theorem dX0_allPonds_8 : decode cX0_allPonds 8 = .ok (.ireturn, 1) := by decide +kernel
theorem dX0_allPipes_0 : decode cX0_allPipes 0 = .ok (.iconst 1, 1) := by decide +kernel
theorem dX0_allPipes_1 : decode cX0_allPipes 1 = .ok (.aload_n 0, 1) := by decide +kernel
theorem dX0_allPipes_2 : decode cX0_allPipes 2 = .ok (.getfield 57, 3) := by decide +kernel
theorem dX0_allPipes_5 : decode cX0_allPipes 5 = .ok (.ishl, 1) := by decide +kernel
theorem dX0_allPipes_6 : decode cX0_allPipes 6 = .ok (.iconst 1, 1) := by decide +kernel
theorem dX0_allPipes_7 : decode cX0_allPipes 7 = .ok (.isub, 1) := by decide +kernel
theorem dX0_allPipes_8 : decode cX0_allPipes 8 = .ok (.ireturn, 1) := by decide +kernel
theorem dX0_waterFor_0 : decode cX0_waterFor 0 = .ok (.iconst 0, 1) := by decide +kernel
theorem dX0_waterFor_1 : decode cX0_waterFor 1 = .ok (.iload_n 2, 1) := by decide +kernel
theorem dX0_waterFor_2 : decode cX0_waterFor 2 = .ok (.aload_n 0, 1) := by decide +kernel
theorem dX0_waterFor_3 : decode cX0_waterFor 3 = .ok (.getfield 18, 3) := by decide +kernel
theorem dX0_waterFor_6 : decode cX0_waterFor 6 = .ok (.iload_n 1, 1) := by decide +kernel
theorem dX0_waterFor_7 : decode cX0_waterFor 7 = .ok (.iaload, 1) := by decide +kernel
theorem dX0_waterFor_8 : decode cX0_waterFor 8 = .ok (.isub, 1) := by decide +kernel
theorem dX0_waterFor_9 : decode cX0_waterFor 9 = .ok (.aload_n 0, 1) := by decide +kernel
theorem dX0_waterFor_10 : decode cX0_waterFor 10 = .ok (.getfield 15, 3) := by decide +kernel
theorem dX0_waterFor_13 : decode cX0_waterFor 13 = .ok (.iload_n 1, 1) := by decide +kernel
theorem dX0_waterFor_14 : decode cX0_waterFor 14 = .ok (.iaload, 1) := by decide +kernel
theorem dX0_waterFor_15 : decode cX0_waterFor 15 = .ok (.imul, 1) := by decide +kernel
theorem dX0_waterFor_16 : decode cX0_waterFor 16 = .ok (.invokestatic 79, 3) := by decide +kernel
theorem dX0_waterFor_19 : decode cX0_waterFor 19 = .ok (.ireturn, 1) := by decide +kernel
theorem dX0_liftOf_0 : decode cX0_liftOf 0 = .ok (.aload_n 0, 1) := by decide +kernel
theorem dX0_liftOf_1 : decode cX0_liftOf 1 = .ok (.getfield 15, 3) := by decide +kernel
theorem dX0_liftOf_4 : decode cX0_liftOf 4 = .ok (.aload_n 0, 1) := by decide +kernel
theorem dX0_liftOf_5 : decode cX0_liftOf 5 = .ok (.getfield 42, 3) := by decide +kernel
theorem dX0_liftOf_8 : decode cX0_liftOf 8 = .ok (.getfield 85, 3) := by decide +kernel
theorem dX0_liftOf_11 : decode cX0_liftOf 11 = .ok (.iload_n 1, 1) := by decide +kernel
theorem dX0_liftOf_12 : decode cX0_liftOf 12 = .ok (.iaload, 1) := by decide +kernel
theorem dX0_liftOf_13 : decode cX0_liftOf 13 = .ok (.iaload, 1) := by decide +kernel
theorem dX0_liftOf_14 : decode cX0_liftOf 14 = .ok (.iconst 0, 1) := by decide +kernel
theorem dX0_liftOf_15 : decode cX0_liftOf 15 = .ok (.aload_n 0, 1) := by decide +kernel
theorem dX0_liftOf_16 : decode cX0_liftOf 16 = .ok (.getfield 42, 3) := by decide +kernel
theorem dX0_liftOf_19 : decode cX0_liftOf 19 = .ok (.getfield 88, 3) := by decide +kernel
theorem dX0_liftOf_22 : decode cX0_liftOf 22 = .ok (.iload_n 1, 1) := by decide +kernel
theorem dX0_liftOf_23 : decode cX0_liftOf 23 = .ok (.iaload, 1) := by decide +kernel
theorem dX0_liftOf_24 : decode cX0_liftOf 24 = .ok (.aload_n 0, 1) := by decide +kernel
theorem dX0_liftOf_25 : decode cX0_liftOf 25 = .ok (.getfield 42, 3) := by decide +kernel
theorem dX0_liftOf_28 : decode cX0_liftOf 28 = .ok (.getfield 91, 3) := by decide +kernel
theorem dX0_liftOf_31 : decode cX0_liftOf 31 = .ok (.iload_n 1, 1) := by decide +kernel
theorem dX0_liftOf_32 : decode cX0_liftOf 32 = .ok (.iaload, 1) := by decide +kernel
theorem dX0_liftOf_33 : decode cX0_liftOf 33 = .ok (.isub, 1) := by decide +kernel
theorem dX0_liftOf_34 : decode cX0_liftOf 34 = .ok (.invokestatic 79, 3) := by decide +kernel
theorem dX0_liftOf_37 : decode cX0_liftOf 37 = .ok (.imul, 1) := by decide +kernel
theorem dX0_liftOf_38 : decode cX0_liftOf 38 = .ok (.ireturn, 1) := by decide +kernel
theorem dX0_areaUpTo_0 : decode cX0_areaUpTo 0 = .ok (.lconst 0, 1) := by decide +kernel
theorem dX0_areaUpTo_1 : decode cX0_areaUpTo 1 = .ok (.lstore_n 3, 1) := by decide +kernel
theorem dX0_areaUpTo_2 : decode cX0_areaUpTo 2 = .ok (.iconst 0, 1) := by decide +kernel
theorem dX0_areaUpTo_3 : decode cX0_areaUpTo 3 = .ok (.istore 5, 2) := by decide +kernel
theorem dX0_areaUpTo_5 : decode cX0_areaUpTo 5 = .ok (.iload 5, 2) := by decide +kernel
theorem dX0_areaUpTo_7 : decode cX0_areaUpTo 7 = .ok (.aload_n 0, 1) := by decide +kernel
theorem dX0_areaUpTo_8 : decode cX0_areaUpTo 8 = .ok (.getfield 53, 3) := by decide +kernel
theorem dX0_areaUpTo_11 : decode cX0_areaUpTo 11 = .ok (.if_icmp .ge 41, 3) := by decide +kernel
theorem dX0_areaUpTo_14 : decode cX0_areaUpTo 14 = .ok (.iload_n 1, 1) := by decide +kernel
theorem dX0_areaUpTo_15 : decode cX0_areaUpTo 15 = .ok (.iload 5, 2) := by decide +kernel
theorem dX0_areaUpTo_17 : decode cX0_areaUpTo 17 = .ok (.ishr, 1) := by decide +kernel
theorem dX0_areaUpTo_18 : decode cX0_areaUpTo 18 = .ok (.iconst 1, 1) := by decide +kernel
theorem dX0_areaUpTo_19 : decode cX0_areaUpTo 19 = .ok (.iand, 1) := by decide +kernel
theorem dX0_areaUpTo_20 : decode cX0_areaUpTo 20 = .ok (.iconst 1, 1) := by decide +kernel
theorem dX0_areaUpTo_21 : decode cX0_areaUpTo 21 = .ok (.if_icmp .ne 25, 3) := by decide +kernel
theorem dX0_areaUpTo_24 : decode cX0_areaUpTo 24 = .ok (.aload_n 0, 1) := by decide +kernel
theorem dX0_areaUpTo_25 : decode cX0_areaUpTo 25 = .ok (.getfield 18, 3) := by decide +kernel
theorem dX0_areaUpTo_28 : decode cX0_areaUpTo 28 = .ok (.iload 5, 2) := by decide +kernel
theorem dX0_areaUpTo_30 : decode cX0_areaUpTo 30 = .ok (.iaload, 1) := by decide +kernel
theorem dX0_areaUpTo_31 : decode cX0_areaUpTo 31 = .ok (.iload_n 2, 1) := by decide +kernel
theorem dX0_areaUpTo_32 : decode cX0_areaUpTo 32 = .ok (.if_icmp .gt 14, 3) := by decide +kernel
theorem dX0_areaUpTo_35 : decode cX0_areaUpTo 35 = .ok (.lload_n 3, 1) := by decide +kernel
theorem dX0_areaUpTo_36 : decode cX0_areaUpTo 36 = .ok (.aload_n 0, 1) := by decide +kernel
theorem dX0_areaUpTo_37 : decode cX0_areaUpTo 37 = .ok (.getfield 15, 3) := by decide +kernel
theorem dX0_areaUpTo_40 : decode cX0_areaUpTo 40 = .ok (.iload 5, 2) := by decide +kernel
theorem dX0_areaUpTo_42 : decode cX0_areaUpTo 42 = .ok (.iaload, 1) := by decide +kernel
theorem dX0_areaUpTo_43 : decode cX0_areaUpTo 43 = .ok (.i2l, 1) := by decide +kernel
theorem dX0_areaUpTo_44 : decode cX0_areaUpTo 44 = .ok (.ladd, 1) := by decide +kernel
theorem dX0_areaUpTo_45 : decode cX0_areaUpTo 45 = .ok (.lstore_n 3, 1) := by decide +kernel
theorem dX0_areaUpTo_46 : decode cX0_areaUpTo 46 = .ok (.iinc 5 1, 3) := by decide +kernel
theorem dX0_areaUpTo_49 : decode cX0_areaUpTo 49 = .ok (.goto (-44), 3) := by decide +kernel
theorem dX0_areaUpTo_52 : decode cX0_areaUpTo 52 = .ok (.lload_n 3, 1) := by decide +kernel
theorem dX0_areaUpTo_53 : decode cX0_areaUpTo 53 = .ok (.lreturn, 1) := by decide +kernel
theorem dX0_bedUpTo_0 : decode cX0_bedUpTo 0 = .ok (.lconst 0, 1) := by decide +kernel
theorem dX0_bedUpTo_1 : decode cX0_bedUpTo 1 = .ok (.lstore_n 3, 1) := by decide +kernel
theorem dX0_bedUpTo_2 : decode cX0_bedUpTo 2 = .ok (.iconst 0, 1) := by decide +kernel
theorem dX0_bedUpTo_3 : decode cX0_bedUpTo 3 = .ok (.istore 5, 2) := by decide +kernel
theorem dX0_bedUpTo_5 : decode cX0_bedUpTo 5 = .ok (.iload 5, 2) := by decide +kernel
theorem dX0_bedUpTo_7 : decode cX0_bedUpTo 7 = .ok (.aload_n 0, 1) := by decide +kernel
theorem dX0_bedUpTo_8 : decode cX0_bedUpTo 8 = .ok (.getfield 53, 3) := by decide +kernel
theorem dX0_bedUpTo_11 : decode cX0_bedUpTo 11 = .ok (.if_icmp .ge 49, 3) := by decide +kernel
theorem dX0_bedUpTo_14 : decode cX0_bedUpTo 14 = .ok (.iload_n 1, 1) := by decide +kernel
theorem dX0_bedUpTo_15 : decode cX0_bedUpTo 15 = .ok (.iload 5, 2) := by decide +kernel
theorem dX0_bedUpTo_17 : decode cX0_bedUpTo 17 = .ok (.ishr, 1) := by decide +kernel
theorem dX0_bedUpTo_18 : decode cX0_bedUpTo 18 = .ok (.iconst 1, 1) := by decide +kernel
theorem dX0_bedUpTo_19 : decode cX0_bedUpTo 19 = .ok (.iand, 1) := by decide +kernel
theorem dX0_bedUpTo_20 : decode cX0_bedUpTo 20 = .ok (.iconst 1, 1) := by decide +kernel
theorem dX0_bedUpTo_21 : decode cX0_bedUpTo 21 = .ok (.if_icmp .ne 33, 3) := by decide +kernel
theorem dX0_bedUpTo_24 : decode cX0_bedUpTo 24 = .ok (.aload_n 0, 1) := by decide +kernel
theorem dX0_bedUpTo_25 : decode cX0_bedUpTo 25 = .ok (.getfield 18, 3) := by decide +kernel
theorem dX0_bedUpTo_28 : decode cX0_bedUpTo 28 = .ok (.iload 5, 2) := by decide +kernel
theorem dX0_bedUpTo_30 : decode cX0_bedUpTo 30 = .ok (.iaload, 1) := by decide +kernel
theorem dX0_bedUpTo_31 : decode cX0_bedUpTo 31 = .ok (.iload_n 2, 1) := by decide +kernel
theorem dX0_bedUpTo_32 : decode cX0_bedUpTo 32 = .ok (.if_icmp .gt 22, 3) := by decide +kernel
theorem dX0_bedUpTo_35 : decode cX0_bedUpTo 35 = .ok (.lload_n 3, 1) := by decide +kernel
theorem dX0_bedUpTo_36 : decode cX0_bedUpTo 36 = .ok (.aload_n 0, 1) := by decide +kernel
theorem dX0_bedUpTo_37 : decode cX0_bedUpTo 37 = .ok (.getfield 15, 3) := by decide +kernel
theorem dX0_bedUpTo_40 : decode cX0_bedUpTo 40 = .ok (.iload 5, 2) := by decide +kernel
theorem dX0_bedUpTo_42 : decode cX0_bedUpTo 42 = .ok (.iaload, 1) := by decide +kernel
theorem dX0_bedUpTo_43 : decode cX0_bedUpTo 43 = .ok (.aload_n 0, 1) := by decide +kernel
theorem dX0_bedUpTo_44 : decode cX0_bedUpTo 44 = .ok (.getfield 18, 3) := by decide +kernel
theorem dX0_bedUpTo_47 : decode cX0_bedUpTo 47 = .ok (.iload 5, 2) := by decide +kernel
theorem dX0_bedUpTo_49 : decode cX0_bedUpTo 49 = .ok (.iaload, 1) := by decide +kernel
theorem dX0_bedUpTo_50 : decode cX0_bedUpTo 50 = .ok (.imul, 1) := by decide +kernel
theorem dX0_bedUpTo_51 : decode cX0_bedUpTo 51 = .ok (.i2l, 1) := by decide +kernel
theorem dX0_bedUpTo_52 : decode cX0_bedUpTo 52 = .ok (.ladd, 1) := by decide +kernel
theorem dX0_bedUpTo_53 : decode cX0_bedUpTo 53 = .ok (.lstore_n 3, 1) := by decide +kernel
theorem dX0_bedUpTo_54 : decode cX0_bedUpTo 54 = .ok (.iinc 5 1, 3) := by decide +kernel
theorem dX0_bedUpTo_57 : decode cX0_bedUpTo 57 = .ok (.goto (-52), 3) := by decide +kernel
theorem dX0_bedUpTo_60 : decode cX0_bedUpTo 60 = .ok (.lload_n 3, 1) := by decide +kernel
theorem dX0_bedUpTo_61 : decode cX0_bedUpTo 61 = .ok (.lreturn, 1) := by decide +kernel
theorem dX0_nextTo_0 : decode cX0_nextTo 0 = .ok (.iconst 0, 1) := by decide +kernel
theorem dX0_nextTo_1 : decode cX0_nextTo 1 = .ok (.istore_n 3, 1) := by decide +kernel
theorem dX0_nextTo_2 : decode cX0_nextTo 2 = .ok (.iconst 0, 1) := by decide +kernel
theorem dX0_nextTo_3 : decode cX0_nextTo 3 = .ok (.istore 4, 2) := by decide +kernel
theorem dX0_nextTo_5 : decode cX0_nextTo 5 = .ok (.iload 4, 2) := by decide +kernel
theorem dX0_nextTo_7 : decode cX0_nextTo 7 = .ok (.aload_n 0, 1) := by decide +kernel
theorem dX0_nextTo_8 : decode cX0_nextTo 8 = .ok (.getfield 57, 3) := by decide +kernel
theorem dX0_nextTo_11 : decode cX0_nextTo 11 = .ok (.if_icmp .ge 51, 3) := by decide +kernel
theorem dX0_nextTo_14 : decode cX0_nextTo 14 = .ok (.iconst 1, 1) := by decide +kernel
theorem dX0_nextTo_15 : decode cX0_nextTo 15 = .ok (.aload_n 0, 1) := by decide +kernel
theorem dX0_nextTo_16 : decode cX0_nextTo 16 = .ok (.getfield 27, 3) := by decide +kernel
theorem dX0_nextTo_19 : decode cX0_nextTo 19 = .ok (.iload 4, 2) := by decide +kernel
theorem dX0_nextTo_21 : decode cX0_nextTo 21 = .ok (.iaload, 1) := by decide +kernel
theorem dX0_nextTo_22 : decode cX0_nextTo 22 = .ok (.ishl, 1) := by decide +kernel
theorem dX0_nextTo_23 : decode cX0_nextTo 23 = .ok (.iconst 1, 1) := by decide +kernel
theorem dX0_nextTo_24 : decode cX0_nextTo 24 = .ok (.aload_n 0, 1) := by decide +kernel
theorem dX0_nextTo_25 : decode cX0_nextTo 25 = .ok (.getfield 30, 3) := by decide +kernel
theorem dX0_nextTo_28 : decode cX0_nextTo 28 = .ok (.iload 4, 2) := by decide +kernel
theorem dX0_nextTo_30 : decode cX0_nextTo 30 = .ok (.iaload, 1) := by decide +kernel
theorem dX0_nextTo_31 : decode cX0_nextTo 31 = .ok (.ishl, 1) := by decide +kernel
theorem dX0_nextTo_32 : decode cX0_nextTo 32 = .ok (.ior, 1) := by decide +kernel
theorem dX0_nextTo_33 : decode cX0_nextTo 33 = .ok (.istore 5, 2) := by decide +kernel
theorem dX0_nextTo_35 : decode cX0_nextTo 35 = .ok (.iload_n 2, 1) := by decide +kernel
theorem dX0_nextTo_36 : decode cX0_nextTo 36 = .ok (.iload 4, 2) := by decide +kernel
theorem dX0_nextTo_38 : decode cX0_nextTo 38 = .ok (.ishr, 1) := by decide +kernel
theorem dX0_nextTo_39 : decode cX0_nextTo 39 = .ok (.iconst 1, 1) := by decide +kernel
theorem dX0_nextTo_40 : decode cX0_nextTo 40 = .ok (.iand, 1) := by decide +kernel
theorem dX0_nextTo_41 : decode cX0_nextTo 41 = .ok (.ifCond .ne 15, 3) := by decide +kernel
theorem dX0_nextTo_44 : decode cX0_nextTo 44 = .ok (.iload 5, 2) := by decide +kernel
theorem dX0_nextTo_46 : decode cX0_nextTo 46 = .ok (.iload_n 1, 1) := by decide +kernel
theorem dX0_nextTo_47 : decode cX0_nextTo 47 = .ok (.iand, 1) := by decide +kernel
theorem dX0_nextTo_48 : decode cX0_nextTo 48 = .ok (.ifCond .eq 8, 3) := by decide +kernel
theorem dX0_nextTo_51 : decode cX0_nextTo 51 = .ok (.iload_n 3, 1) := by decide +kernel
theorem dX0_nextTo_52 : decode cX0_nextTo 52 = .ok (.iload 5, 2) := by decide +kernel
theorem dX0_nextTo_54 : decode cX0_nextTo 54 = .ok (.ior, 1) := by decide +kernel
theorem dX0_nextTo_55 : decode cX0_nextTo 55 = .ok (.istore_n 3, 1) := by decide +kernel
theorem dX0_nextTo_56 : decode cX0_nextTo 56 = .ok (.iinc 4 1, 3) := by decide +kernel
theorem dX0_nextTo_59 : decode cX0_nextTo 59 = .ok (.goto (-54), 3) := by decide +kernel
theorem dX0_nextTo_62 : decode cX0_nextTo 62 = .ok (.iload_n 3, 1) := by decide +kernel
theorem dX0_nextTo_63 : decode cX0_nextTo 63 = .ok (.ireturn, 1) := by decide +kernel
theorem dX0_wideAcross_0 : decode cX0_wideAcross 0 = .ok (.iconst 0, 1) := by decide +kernel
theorem dX0_wideAcross_1 : decode cX0_wideAcross 1 = .ok (.istore_n 3, 1) := by decide +kernel
theorem dX0_wideAcross_2 : decode cX0_wideAcross 2 = .ok (.iconst 0, 1) := by decide +kernel
theorem dX0_wideAcross_3 : decode cX0_wideAcross 3 = .ok (.istore 4, 2) := by decide +kernel
theorem dX0_wideAcross_5 : decode cX0_wideAcross 5 = .ok (.iload 4, 2) := by decide +kernel
theorem dX0_wideAcross_7 : decode cX0_wideAcross 7 = .ok (.aload_n 0, 1) := by decide +kernel
theorem dX0_wideAcross_8 : decode cX0_wideAcross 8 = .ok (.getfield 57, 3) := by decide +kernel
theorem dX0_wideAcross_11 : decode cX0_wideAcross 11 = .ok (.if_icmp .ge 53, 3) := by decide +kernel
theorem dX0_wideAcross_14 : decode cX0_wideAcross 14 = .ok (.iload_n 2, 1) := by decide +kernel
theorem dX0_wideAcross_15 : decode cX0_wideAcross 15 = .ok (.iload 4, 2) := by decide +kernel
theorem dX0_wideAcross_17 : decode cX0_wideAcross 17 = .ok (.ishr, 1) := by decide +kernel
theorem dX0_wideAcross_18 : decode cX0_wideAcross 18 = .ok (.iconst 1, 1) := by decide +kernel
theorem dX0_wideAcross_19 : decode cX0_wideAcross 19 = .ok (.iand, 1) := by decide +kernel
theorem dX0_wideAcross_20 : decode cX0_wideAcross 20 = .ok (.ifCond .ne 38, 3) := by decide +kernel
theorem dX0_wideAcross_23 : decode cX0_wideAcross 23 = .ok (.iload_n 1, 1) := by decide +kernel
theorem dX0_wideAcross_24 : decode cX0_wideAcross 24 = .ok (.aload_n 0, 1) := by decide +kernel
theorem dX0_wideAcross_25 : decode cX0_wideAcross 25 = .ok (.getfield 27, 3) := by decide +kernel
theorem dX0_wideAcross_28 : decode cX0_wideAcross 28 = .ok (.iload 4, 2) := by decide +kernel
theorem dX0_wideAcross_30 : decode cX0_wideAcross 30 = .ok (.iaload, 1) := by decide +kernel
theorem dX0_wideAcross_31 : decode cX0_wideAcross 31 = .ok (.ishr, 1) := by decide +kernel
theorem dX0_wideAcross_32 : decode cX0_wideAcross 32 = .ok (.iconst 1, 1) := by decide +kernel
theorem dX0_wideAcross_33 : decode cX0_wideAcross 33 = .ok (.iand, 1) := by decide +kernel
theorem dX0_wideAcross_34 : decode cX0_wideAcross 34 = .ok (.iload_n 1, 1) := by decide +kernel
theorem dX0_wideAcross_35 : decode cX0_wideAcross 35 = .ok (.aload_n 0, 1) := by decide +kernel
theorem dX0_wideAcross_36 : decode cX0_wideAcross 36 = .ok (.getfield 30, 3) := by decide +kernel
theorem dX0_wideAcross_39 : decode cX0_wideAcross 39 = .ok (.iload 4, 2) := by decide +kernel
theorem dX0_wideAcross_41 : decode cX0_wideAcross 41 = .ok (.iaload, 1) := by decide +kernel
theorem dX0_wideAcross_42 : decode cX0_wideAcross 42 = .ok (.ishr, 1) := by decide +kernel
theorem dX0_wideAcross_43 : decode cX0_wideAcross 43 = .ok (.iconst 1, 1) := by decide +kernel
theorem dX0_wideAcross_44 : decode cX0_wideAcross 44 = .ok (.iand, 1) := by decide +kernel
theorem dX0_wideAcross_45 : decode cX0_wideAcross 45 = .ok (.if_icmp .eq 13, 3) := by decide +kernel
theorem dX0_wideAcross_48 : decode cX0_wideAcross 48 = .ok (.iload_n 3, 1) := by decide +kernel
theorem dX0_wideAcross_49 : decode cX0_wideAcross 49 = .ok (.aload_n 0, 1) := by decide +kernel
theorem dX0_wideAcross_50 : decode cX0_wideAcross 50 = .ok (.getfield 33, 3) := by decide +kernel
theorem dX0_wideAcross_53 : decode cX0_wideAcross 53 = .ok (.iload 4, 2) := by decide +kernel
theorem dX0_wideAcross_55 : decode cX0_wideAcross 55 = .ok (.iaload, 1) := by decide +kernel
theorem dX0_wideAcross_56 : decode cX0_wideAcross 56 = .ok (.iadd, 1) := by decide +kernel
theorem dX0_wideAcross_57 : decode cX0_wideAcross 57 = .ok (.istore_n 3, 1) := by decide +kernel
theorem dX0_wideAcross_58 : decode cX0_wideAcross 58 = .ok (.iinc 4 1, 3) := by decide +kernel
theorem dX0_wideAcross_61 : decode cX0_wideAcross 61 = .ok (.goto (-56), 3) := by decide +kernel
theorem dX0_wideAcross_64 : decode cX0_wideAcross 64 = .ok (.iload_n 3, 1) := by decide +kernel
theorem dX0_wideAcross_65 : decode cX0_wideAcross 65 = .ok (.ireturn, 1) := by decide +kernel
theorem dX1_init_0 : decode cX1_init 0 = .ok (.aload_n 0, 1) := by decide +kernel
theorem dX1_init_1 : decode cX1_init 1 = .ok (.invokespecial 3, 3) := by decide +kernel
theorem dX1_init_4 : decode cX1_init 4 = .ok (.aload_n 0, 1) := by decide +kernel
theorem dX1_init_5 : decode cX1_init 5 = .ok (.iconst (-1), 1) := by decide +kernel
theorem dX1_init_6 : decode cX1_init 6 = .ok (.putfield 11, 3) := by decide +kernel
theorem dX1_init_9 : decode cX1_init 9 = .ok (.aload_n 0, 1) := by decide +kernel
theorem dX1_init_10 : decode cX1_init 10 = .ok (.bipush 24, 2) := by decide +kernel
theorem dX1_init_12 : decode cX1_init 12 = .ok (.newarray .int, 2) := by decide +kernel
theorem dX1_init_14 : decode cX1_init 14 = .ok (.putfield 15, 3) := by decide +kernel
theorem dX1_init_17 : decode cX1_init 17 = .ok (.aload_n 0, 1) := by decide +kernel
theorem dX1_init_18 : decode cX1_init 18 = .ok (.bipush 24, 2) := by decide +kernel
theorem dX1_init_20 : decode cX1_init 20 = .ok (.newarray .int, 2) := by decide +kernel
theorem dX1_init_22 : decode cX1_init 22 = .ok (.putfield 19, 3) := by decide +kernel
theorem dX1_init_25 : decode cX1_init 25 = .ok (.aload_n 0, 1) := by decide +kernel
theorem dX1_init_26 : decode cX1_init 26 = .ok (.bipush 24, 2) := by decide +kernel
theorem dX1_init_28 : decode cX1_init 28 = .ok (.newarray .int, 2) := by decide +kernel
theorem dX1_init_30 : decode cX1_init 30 = .ok (.putfield 22, 3) := by decide +kernel
theorem dX1_init_33 : decode cX1_init 33 = .ok (.aload_n 0, 1) := by decide +kernel
theorem dX1_init_34 : decode cX1_init 34 = .ok (.bipush 24, 2) := by decide +kernel
theorem dX1_init_36 : decode cX1_init 36 = .ok (.newarray .int, 2) := by decide +kernel
theorem dX1_init_38 : decode cX1_init 38 = .ok (.putfield 25, 3) := by decide +kernel
theorem dX1_init_41 : decode cX1_init 41 = .ok (.aload_n 0, 1) := by decide +kernel
theorem dX1_init_42 : decode cX1_init 42 = .ok (.bipush 24, 2) := by decide +kernel
theorem dX1_init_44 : decode cX1_init 44 = .ok (.newarray .boolean, 2) := by decide +kernel
theorem dX1_init_46 : decode cX1_init 46 = .ok (.putfield 28, 3) := by decide +kernel
theorem dX1_init_49 : decode cX1_init 49 = .ok (.return_, 1) := by decide +kernel
theorem dX1_clear_0 : decode cX1_clear 0 = .ok (.aload_n 0, 1) := by decide +kernel
theorem dX1_clear_1 : decode cX1_clear 1 = .ok (.iconst 0, 1) := by decide +kernel
theorem dX1_clear_2 : decode cX1_clear 2 = .ok (.putfield 32, 3) := by decide +kernel
theorem dX1_clear_5 : decode cX1_clear 5 = .ok (.aload_n 0, 1) := by decide +kernel
theorem dX1_clear_6 : decode cX1_clear 6 = .ok (.iconst (-1), 1) := by decide +kernel
theorem dX1_clear_7 : decode cX1_clear 7 = .ok (.putfield 11, 3) := by decide +kernel
theorem dX1_clear_10 : decode cX1_clear 10 = .ok (.return_, 1) := by decide +kernel
theorem dX1_isFull_0 : decode cX1_isFull 0 = .ok (.aload_n 0, 1) := by decide +kernel
theorem dX1_isFull_1 : decode cX1_isFull 1 = .ok (.getfield 32, 3) := by decide +kernel
theorem dX1_isFull_4 : decode cX1_isFull 4 = .ok (.bipush 24, 2) := by decide +kernel
theorem dX1_isFull_6 : decode cX1_isFull 6 = .ok (.if_icmp .lt 7, 3) := by decide +kernel
theorem dX1_isFull_9 : decode cX1_isFull 9 = .ok (.iconst 1, 1) := by decide +kernel
theorem dX1_isFull_10 : decode cX1_isFull 10 = .ok (.goto 4, 3) := by decide +kernel
theorem dX1_isFull_13 : decode cX1_isFull 13 = .ok (.iconst 0, 1) := by decide +kernel
theorem dX1_isFull_14 : decode cX1_isFull 14 = .ok (.ireturn, 1) := by decide +kernel
theorem dX1_add_0 : decode cX1_add 0 = .ok (.aload_n 0, 1) := by decide +kernel
theorem dX1_add_1 : decode cX1_add 1 = .ok (.invokevirtual 35, 3) := by decide +kernel
theorem dX1_add_4 : decode cX1_add 4 = .ok (.ifCond .eq 5, 3) := by decide +kernel
theorem dX1_add_7 : decode cX1_add 7 = .ok (.iconst (-1), 1) := by decide +kernel
theorem dX1_add_8 : decode cX1_add 8 = .ok (.ireturn, 1) := by decide +kernel
theorem dX1_add_9 : decode cX1_add 9 = .ok (.aload_n 0, 1) := by decide +kernel
theorem dX1_add_10 : decode cX1_add 10 = .ok (.getfield 15, 3) := by decide +kernel
theorem dX1_add_13 : decode cX1_add 13 = .ok (.aload_n 0, 1) := by decide +kernel
theorem dX1_add_14 : decode cX1_add 14 = .ok (.getfield 32, 3) := by decide +kernel
theorem dX1_add_17 : decode cX1_add 17 = .ok (.iload_n 1, 1) := by decide +kernel
theorem dX1_add_18 : decode cX1_add 18 = .ok (.iastore, 1) := by decide +kernel
theorem dX1_add_19 : decode cX1_add 19 = .ok (.aload_n 0, 1) := by decide +kernel
theorem dX1_add_20 : decode cX1_add 20 = .ok (.getfield 19, 3) := by decide +kernel
theorem dX1_add_23 : decode cX1_add 23 = .ok (.aload_n 0, 1) := by decide +kernel
theorem dX1_add_24 : decode cX1_add 24 = .ok (.getfield 32, 3) := by decide +kernel
theorem dX1_add_27 : decode cX1_add 27 = .ok (.iload_n 2, 1) := by decide +kernel
theorem dX1_add_28 : decode cX1_add 28 = .ok (.iastore, 1) := by decide +kernel
theorem dX1_add_29 : decode cX1_add 29 = .ok (.aload_n 0, 1) := by decide +kernel
theorem dX1_add_30 : decode cX1_add 30 = .ok (.getfield 22, 3) := by decide +kernel
theorem dX1_add_33 : decode cX1_add 33 = .ok (.aload_n 0, 1) := by decide +kernel
theorem dX1_add_34 : decode cX1_add 34 = .ok (.getfield 32, 3) := by decide +kernel
theorem dX1_add_37 : decode cX1_add 37 = .ok (.iload_n 3, 1) := by decide +kernel
theorem dX1_add_38 : decode cX1_add 38 = .ok (.iastore, 1) := by decide +kernel
theorem dX1_add_39 : decode cX1_add 39 = .ok (.aload_n 0, 1) := by decide +kernel
theorem dX1_add_40 : decode cX1_add 40 = .ok (.getfield 25, 3) := by decide +kernel
theorem dX1_add_43 : decode cX1_add 43 = .ok (.aload_n 0, 1) := by decide +kernel
theorem dX1_add_44 : decode cX1_add 44 = .ok (.getfield 32, 3) := by decide +kernel
theorem dX1_add_47 : decode cX1_add 47 = .ok (.iload 4, 2) := by decide +kernel
theorem dX1_add_49 : decode cX1_add 49 = .ok (.iastore, 1) := by decide +kernel
theorem dX1_add_50 : decode cX1_add 50 = .ok (.aload_n 0, 1) := by decide +kernel
theorem dX1_add_51 : decode cX1_add 51 = .ok (.dup, 1) := by decide +kernel
theorem dX1_add_52 : decode cX1_add 52 = .ok (.getfield 32, 3) := by decide +kernel
theorem dX1_add_55 : decode cX1_add 55 = .ok (.iconst 1, 1) := by decide +kernel
theorem dX1_add_56 : decode cX1_add 56 = .ok (.iadd, 1) := by decide +kernel
theorem dX1_add_57 : decode cX1_add 57 = .ok (.putfield 32, 3) := by decide +kernel
theorem dX1_add_60 : decode cX1_add 60 = .ok (.aload_n 0, 1) := by decide +kernel
theorem dX1_add_61 : decode cX1_add 61 = .ok (.getfield 32, 3) := by decide +kernel
theorem dX1_add_64 : decode cX1_add 64 = .ok (.iconst 1, 1) := by decide +kernel
theorem dX1_add_65 : decode cX1_add 65 = .ok (.isub, 1) := by decide +kernel
theorem dX1_add_66 : decode cX1_add 66 = .ok (.ireturn, 1) := by decide +kernel
theorem dX1_knownCount_0 : decode cX1_knownCount 0 = .ok (.aload_n 0, 1) := by decide +kernel
theorem dX1_knownCount_1 : decode cX1_knownCount 1 = .ok (.getfield 11, 3) := by decide +kernel
theorem dX1_knownCount_4 : decode cX1_knownCount 4 = .ok (.iconst (-1), 1) := by decide +kernel
theorem dX1_knownCount_5 : decode cX1_knownCount 5 = .ok (.if_icmp .ne 10, 3) := by decide +kernel
theorem dX1_knownCount_8 : decode cX1_knownCount 8 = .ok (.aload_n 0, 1) := by decide +kernel
theorem dX1_knownCount_9 : decode cX1_knownCount 9 = .ok (.getfield 32, 3) := by decide +kernel
theorem dX1_knownCount_12 : decode cX1_knownCount 12 = .ok (.goto 7, 3) := by decide +kernel
theorem dX1_knownCount_15 : decode cX1_knownCount 15 = .ok (.aload_n 0, 1) := by decide +kernel
theorem dX1_knownCount_16 : decode cX1_knownCount 16 = .ok (.getfield 11, 3) := by decide +kernel
theorem dX1_knownCount_19 : decode cX1_knownCount 19 = .ok (.ireturn, 1) := by decide +kernel
theorem dX1_settle_0 : decode cX1_settle 0 = .ok (.iconst 0, 1) := by decide +kernel
theorem dX1_settle_1 : decode cX1_settle 1 = .ok (.istore_n 1, 1) := by decide +kernel
theorem dX1_settle_2 : decode cX1_settle 2 = .ok (.iload_n 1, 1) := by decide +kernel
theorem dX1_settle_3 : decode cX1_settle 3 = .ok (.bipush 24, 2) := by decide +kernel
theorem dX1_settle_5 : decode cX1_settle 5 = .ok (.if_icmp .ge 16, 3) := by decide +kernel
theorem dX1_settle_8 : decode cX1_settle 8 = .ok (.aload_n 0, 1) := by decide +kernel
theorem dX1_settle_9 : decode cX1_settle 9 = .ok (.getfield 28, 3) := by decide +kernel
theorem dX1_settle_12 : decode cX1_settle 12 = .ok (.iload_n 1, 1) := by decide +kernel
theorem dX1_settle_13 : decode cX1_settle 13 = .ok (.iconst 0, 1) := by decide +kernel
theorem dX1_settle_14 : decode cX1_settle 14 = .ok (.bastore, 1) := by decide +kernel
theorem dX1_settle_15 : decode cX1_settle 15 = .ok (.iinc 1 1, 3) := by decide +kernel
theorem dX1_settle_18 : decode cX1_settle 18 = .ok (.goto (-16), 3) := by decide +kernel
theorem dX1_settle_21 : decode cX1_settle 21 = .ok (.aload_n 0, 1) := by decide +kernel
theorem dX1_settle_22 : decode cX1_settle 22 = .ok (.invokevirtual 39, 3) := by decide +kernel
theorem dX1_settle_25 : decode cX1_settle 25 = .ok (.iconst 1, 1) := by decide +kernel
theorem dX1_settle_26 : decode cX1_settle 26 = .ok (.isub, 1) := by decide +kernel
theorem dX1_settle_27 : decode cX1_settle 27 = .ok (.istore_n 1, 1) := by decide +kernel
theorem dX1_settle_28 : decode cX1_settle 28 = .ok (.iload_n 1, 1) := by decide +kernel
theorem dX1_settle_29 : decode cX1_settle 29 = .ok (.ifCond .lt 40, 3) := by decide +kernel
theorem dX1_settle_32 : decode cX1_settle 32 = .ok (.aload_n 0, 1) := by decide +kernel
theorem dX1_settle_33 : decode cX1_settle 33 = .ok (.getfield 15, 3) := by decide +kernel
theorem dX1_settle_36 : decode cX1_settle 36 = .ok (.iload_n 1, 1) := by decide +kernel
theorem dX1_settle_37 : decode cX1_settle 37 = .ok (.iaload, 1) := by decide +kernel
theorem dX1_settle_38 : decode cX1_settle 38 = .ok (.iconst 2, 1) := by decide +kernel
theorem dX1_settle_39 : decode cX1_settle 39 = .ok (.if_icmp .ne 24, 3) := by decide +kernel
theorem dX1_settle_42 : decode cX1_settle 42 = .ok (.aload_n 0, 1) := by decide +kernel
theorem dX1_settle_43 : decode cX1_settle 43 = .ok (.getfield 28, 3) := by decide +kernel
theorem dX1_settle_46 : decode cX1_settle 46 = .ok (.iload_n 1, 1) := by decide +kernel
theorem dX1_settle_47 : decode cX1_settle 47 = .ok (.baload, 1) := by decide +kernel
theorem dX1_settle_48 : decode cX1_settle 48 = .ok (.ifCond .ne 15, 3) := by decide +kernel
theorem dX1_settle_51 : decode cX1_settle 51 = .ok (.aload_n 0, 1) := by decide +kernel
theorem dX1_settle_52 : decode cX1_settle 52 = .ok (.getfield 28, 3) := by decide +kernel
theorem dX1_settle_55 : decode cX1_settle 55 = .ok (.aload_n 0, 1) := by decide +kernel
theorem dX1_settle_56 : decode cX1_settle 56 = .ok (.getfield 22, 3) := by decide +kernel
theorem dX1_settle_59 : decode cX1_settle 59 = .ok (.iload_n 1, 1) := by decide +kernel
theorem dX1_settle_60 : decode cX1_settle 60 = .ok (.iaload, 1) := by decide +kernel
theorem dX1_settle_61 : decode cX1_settle 61 = .ok (.iconst 1, 1) := by decide +kernel
theorem dX1_settle_62 : decode cX1_settle 62 = .ok (.bastore, 1) := by decide +kernel
theorem dX1_settle_63 : decode cX1_settle 63 = .ok (.iinc 1 (-1), 3) := by decide +kernel
theorem dX1_settle_66 : decode cX1_settle 66 = .ok (.goto (-38), 3) := by decide +kernel
theorem dX1_settle_69 : decode cX1_settle 69 = .ok (.return_, 1) := by decide +kernel
theorem dX1_counts_0 : decode cX1_counts 0 = .ok (.aload_n 0, 1) := by decide +kernel
theorem dX1_counts_1 : decode cX1_counts 1 = .ok (.getfield 15, 3) := by decide +kernel
theorem dX1_counts_4 : decode cX1_counts 4 = .ok (.iload_n 1, 1) := by decide +kernel
theorem dX1_counts_5 : decode cX1_counts 5 = .ok (.iaload, 1) := by decide +kernel
theorem dX1_counts_6 : decode cX1_counts 6 = .ok (.iconst 2, 1) := by decide +kernel
theorem dX1_counts_7 : decode cX1_counts 7 = .ok (.if_icmp .eq 16, 3) := by decide +kernel
theorem dX1_counts_10 : decode cX1_counts 10 = .ok (.aload_n 0, 1) := by decide +kernel
theorem dX1_counts_11 : decode cX1_counts 11 = .ok (.getfield 28, 3) := by decide +kernel
theorem dX1_counts_14 : decode cX1_counts 14 = .ok (.iload_n 1, 1) := by decide +kernel
theorem dX1_counts_15 : decode cX1_counts 15 = .ok (.baload, 1) := by decide +kernel
theorem dX1_counts_16 : decode cX1_counts 16 = .ok (.ifCond .ne 7, 3) := by decide +kernel
theorem dX1_counts_19 : decode cX1_counts 19 = .ok (.iconst 1, 1) := by decide +kernel
theorem dX1_counts_20 : decode cX1_counts 20 = .ok (.goto 4, 3) := by decide +kernel
theorem dX1_counts_23 : decode cX1_counts 23 = .ok (.iconst 0, 1) := by decide +kernel
theorem dX1_counts_24 : decode cX1_counts 24 = .ok (.ireturn, 1) := by decide +kernel
theorem dX1_lastKnownMinute_0 : decode cX1_lastKnownMinute 0 = .ok (.iconst 0, 1) := by decide +kernel
theorem dX1_lastKnownMinute_1 : decode cX1_lastKnownMinute 1 = .ok (.istore_n 1, 1) := by decide +kernel
theorem dX1_lastKnownMinute_2 : decode cX1_lastKnownMinute 2 = .ok (.iconst 0, 1) := by decide +kernel
theorem dX1_lastKnownMinute_3 : decode cX1_lastKnownMinute 3 = .ok (.istore_n 2, 1) := by decide +kernel
theorem dX1_lastKnownMinute_4 : decode cX1_lastKnownMinute 4 = .ok (.iload_n 2, 1) := by decide +kernel
theorem dX1_lastKnownMinute_5 : decode cX1_lastKnownMinute 5 = .ok (.aload_n 0, 1) := by decide +kernel
theorem dX1_lastKnownMinute_6 : decode cX1_lastKnownMinute 6 = .ok (.invokevirtual 39, 3) := by decide +kernel
theorem dX1_lastKnownMinute_9 : decode cX1_lastKnownMinute 9 = .ok (.if_icmp .ge 28, 3) := by decide +kernel
theorem dX1_lastKnownMinute_12 : decode cX1_lastKnownMinute 12 = .ok (.aload_n 0, 1) := by decide +kernel
theorem dX1_lastKnownMinute_13 : decode cX1_lastKnownMinute 13 = .ok (.iload_n 2, 1) := by decide +kernel
theorem dX1_lastKnownMinute_14 : decode cX1_lastKnownMinute 14 = .ok (.invokevirtual 43, 3) := by decide +kernel
theorem dX1_lastKnownMinute_17 : decode cX1_lastKnownMinute 17 = .ok (.ifCond .eq 14, 3) := by decide +kernel
theorem dX1_lastKnownMinute_20 : decode cX1_lastKnownMinute 20 = .ok (.iload_n 1, 1) := by decide +kernel
theorem dX1_lastKnownMinute_21 : decode cX1_lastKnownMinute 21 = .ok (.aload_n 0, 1) := by decide +kernel
theorem dX1_lastKnownMinute_22 : decode cX1_lastKnownMinute 22 = .ok (.getfield 19, 3) := by decide +kernel
theorem dX1_lastKnownMinute_25 : decode cX1_lastKnownMinute 25 = .ok (.iload_n 2, 1) := by decide +kernel
theorem dX1_lastKnownMinute_26 : decode cX1_lastKnownMinute 26 = .ok (.iaload, 1) := by decide +kernel
theorem dX1_lastKnownMinute_27 : decode cX1_lastKnownMinute 27 = .ok (.invokestatic 47, 3) := by decide +kernel
theorem dX1_lastKnownMinute_30 : decode cX1_lastKnownMinute 30 = .ok (.istore_n 1, 1) := by decide +kernel
theorem dX1_lastKnownMinute_31 : decode cX1_lastKnownMinute 31 = .ok (.iinc 2 1, 3) := by decide +kernel
theorem dX1_lastKnownMinute_34 : decode cX1_lastKnownMinute 34 = .ok (.goto (-30), 3) := by decide +kernel
theorem dX1_lastKnownMinute_37 : decode cX1_lastKnownMinute 37 = .ok (.iload_n 1, 1) := by decide +kernel
theorem dX1_lastKnownMinute_38 : decode cX1_lastKnownMinute 38 = .ok (.ireturn, 1) := by decide +kernel
theorem dX1_hold_0 : decode cX1_hold 0 = .ok (.iconst 0, 1) := by decide +kernel
theorem dX1_hold_1 : decode cX1_hold 1 = .ok (.istore_n 3, 1) := by decide +kernel
theorem dX1_hold_2 : decode cX1_hold 2 = .ok (.iload_n 3, 1) := by decide +kernel
theorem dX1_hold_3 : decode cX1_hold 3 = .ok (.aload_n 0, 1) := by decide +kernel
theorem dX1_hold_4 : decode cX1_hold 4 = .ok (.invokevirtual 39, 3) := by decide +kernel
theorem dX1_hold_7 : decode cX1_hold 7 = .ok (.if_icmp .ge 69, 3) := by decide +kernel
theorem dX1_hold_10 : decode cX1_hold 10 = .ok (.aload_n 0, 1) := by decide +kernel
theorem dX1_hold_11 : decode cX1_hold 11 = .ok (.iload_n 3, 1) := by decide +kernel
theorem dX1_hold_12 : decode cX1_hold 12 = .ok (.invokevirtual 43, 3) := by decide +kernel
theorem dX1_hold_15 : decode cX1_hold 15 = .ok (.ifCond .eq 55, 3) := by decide +kernel
theorem dX1_hold_18 : decode cX1_hold 18 = .ok (.aload_n 0, 1) := by decide +kernel
theorem dX1_hold_19 : decode cX1_hold 19 = .ok (.getfield 19, 3) := by decide +kernel
theorem dX1_hold_22 : decode cX1_hold 22 = .ok (.iload_n 3, 1) := by decide +kernel
theorem dX1_hold_23 : decode cX1_hold 23 = .ok (.iaload, 1) := by decide +kernel
theorem dX1_hold_24 : decode cX1_hold 24 = .ok (.iload_n 1, 1) := by decide +kernel
theorem dX1_hold_25 : decode cX1_hold 25 = .ok (.if_icmp .ne 45, 3) := by decide +kernel
theorem dX1_hold_28 : decode cX1_hold 28 = .ok (.aload_n 2, 1) := by decide +kernel
theorem dX1_hold_29 : decode cX1_hold 29 = .ok (.aload_n 0, 1) := by decide +kernel
theorem dX1_hold_30 : decode cX1_hold 30 = .ok (.getfield 22, 3) := by decide +kernel
theorem dX1_hold_33 : decode cX1_hold 33 = .ok (.iload_n 3, 1) := by decide +kernel
theorem dX1_hold_34 : decode cX1_hold 34 = .ok (.iaload, 1) := by decide +kernel
theorem dX1_hold_35 : decode cX1_hold 35 = .ok (.iaload, 1) := by decide +kernel
theorem dX1_hold_36 : decode cX1_hold 36 = .ok (.aload_n 0, 1) := by decide +kernel
theorem dX1_hold_37 : decode cX1_hold 37 = .ok (.getfield 25, 3) := by decide +kernel
theorem dX1_hold_40 : decode cX1_hold 40 = .ok (.iload_n 3, 1) := by decide +kernel
theorem dX1_hold_41 : decode cX1_hold 41 = .ok (.iaload, 1) := by decide +kernel
theorem dX1_hold_42 : decode cX1_hold 42 = .ok (.if_icmp .lt 7, 3) := by decide +kernel
theorem dX1_hold_45 : decode cX1_hold 45 = .ok (.iconst 1, 1) := by decide +kernel
theorem dX1_hold_46 : decode cX1_hold 46 = .ok (.goto 4, 3) := by decide +kernel
theorem dX1_hold_49 : decode cX1_hold 49 = .ok (.iconst 0, 1) := by decide +kernel
theorem dX1_hold_50 : decode cX1_hold 50 = .ok (.aload_n 0, 1) := by decide +kernel
theorem dX1_hold_51 : decode cX1_hold 51 = .ok (.getfield 15, 3) := by decide +kernel
theorem dX1_hold_54 : decode cX1_hold 54 = .ok (.iload_n 3, 1) := by decide +kernel
theorem dX1_hold_55 : decode cX1_hold 55 = .ok (.iaload, 1) := by decide +kernel
theorem dX1_hold_56 : decode cX1_hold 56 = .ok (.iconst 1, 1) := by decide +kernel
theorem dX1_hold_57 : decode cX1_hold 57 = .ok (.if_icmp .ne 7, 3) := by decide +kernel
theorem dX1_hold_60 : decode cX1_hold 60 = .ok (.iconst 1, 1) := by decide +kernel
theorem dX1_hold_61 : decode cX1_hold 61 = .ok (.goto 4, 3) := by decide +kernel
theorem dX1_hold_64 : decode cX1_hold 64 = .ok (.iconst 0, 1) := by decide +kernel
theorem dX1_hold_65 : decode cX1_hold 65 = .ok (.if_icmp .eq 5, 3) := by decide +kernel
theorem dX1_hold_68 : decode cX1_hold 68 = .ok (.iconst 0, 1) := by decide +kernel
theorem dX1_hold_69 : decode cX1_hold 69 = .ok (.ireturn, 1) := by decide +kernel
theorem dX1_hold_70 : decode cX1_hold 70 = .ok (.iinc 3 1, 3) := by decide +kernel
theorem dX1_hold_73 : decode cX1_hold 73 = .ok (.goto (-71), 3) := by decide +kernel
theorem dX1_hold_76 : decode cX1_hold 76 = .ok (.iconst 1, 1) := by decide +kernel
theorem dX1_hold_77 : decode cX1_hold 77 = .ok (.ireturn, 1) := by decide +kernel
theorem dX2_init_0 : decode cX2_init 0 = .ok (.aload_n 0, 1) := by decide +kernel
theorem dX2_init_1 : decode cX2_init 1 = .ok (.invokespecial 3, 3) := by decide +kernel
theorem dX2_init_4 : decode cX2_init 4 = .ok (.aload_n 0, 1) := by decide +kernel
theorem dX2_init_5 : decode cX2_init 5 = .ok (.sipush 160, 3) := by decide +kernel
theorem dX2_init_8 : decode cX2_init 8 = .ok (.newarray .int, 2) := by decide +kernel
theorem dX2_init_10 : decode cX2_init 10 = .ok (.putfield 11, 3) := by decide +kernel
theorem dX2_init_13 : decode cX2_init 13 = .ok (.return_, 1) := by decide +kernel
theorem dX2_clear_0 : decode cX2_clear 0 = .ok (.aload_n 0, 1) := by decide +kernel
theorem dX2_clear_1 : decode cX2_clear 1 = .ok (.iconst 0, 1) := by decide +kernel
theorem dX2_clear_2 : decode cX2_clear 2 = .ok (.putfield 15, 3) := by decide +kernel
theorem dX2_clear_5 : decode cX2_clear 5 = .ok (.return_, 1) := by decide +kernel
theorem dX2_note_0 : decode cX2_note 0 = .ok (.iconst 0, 1) := by decide +kernel
theorem dX2_note_1 : decode cX2_note 1 = .ok (.istore_n 2, 1) := by decide +kernel
theorem dX2_note_2 : decode cX2_note 2 = .ok (.iload_n 2, 1) := by decide +kernel
theorem dX2_note_3 : decode cX2_note 3 = .ok (.bipush 7, 2) := by decide +kernel
theorem dX2_note_5 : decode cX2_note 5 = .ok (.if_icmp .ge 29, 3) := by decide +kernel
theorem dX2_note_8 : decode cX2_note 8 = .ok (.aload_n 0, 1) := by decide +kernel
theorem dX2_note_9 : decode cX2_note 9 = .ok (.getfield 11, 3) := by decide +kernel
theorem dX2_note_12 : decode cX2_note 12 = .ok (.aload_n 0, 1) := by decide +kernel
theorem dX2_note_13 : decode cX2_note 13 = .ok (.getfield 19, 3) := by decide +kernel
theorem dX2_note_16 : decode cX2_note 16 = .ok (.bipush 8, 2) := by decide +kernel
theorem dX2_note_18 : decode cX2_note 18 = .ok (.imul, 1) := by decide +kernel
theorem dX2_note_19 : decode cX2_note 19 = .ok (.iload_n 2, 1) := by decide +kernel
theorem dX2_note_20 : decode cX2_note 20 = .ok (.iadd, 1) := by decide +kernel
theorem dX2_note_21 : decode cX2_note 21 = .ok (.aload_n 1, 1) := by decide +kernel
theorem dX2_note_22 : decode cX2_note 22 = .ok (.getfield 22, 3) := by decide +kernel
theorem dX2_note_25 : decode cX2_note 25 = .ok (.iload_n 2, 1) := by decide +kernel
theorem dX2_note_26 : decode cX2_note 26 = .ok (.iaload, 1) := by decide +kernel
theorem dX2_note_27 : decode cX2_note 27 = .ok (.iastore, 1) := by decide +kernel
theorem dX2_note_28 : decode cX2_note 28 = .ok (.iinc 2 1, 3) := by decide +kernel
theorem dX2_note_31 : decode cX2_note 31 = .ok (.goto (-29), 3) := by decide +kernel
theorem dX2_note_34 : decode cX2_note 34 = .ok (.aload_n 0, 1) := by decide +kernel
theorem dX2_note_35 : decode cX2_note 35 = .ok (.getfield 11, 3) := by decide +kernel
theorem dX2_note_38 : decode cX2_note 38 = .ok (.aload_n 0, 1) := by decide +kernel
theorem dX2_note_39 : decode cX2_note 39 = .ok (.getfield 19, 3) := by decide +kernel
theorem dX2_note_42 : decode cX2_note 42 = .ok (.bipush 8, 2) := by decide +kernel
theorem dX2_note_44 : decode cX2_note 44 = .ok (.imul, 1) := by decide +kernel
theorem dX2_note_45 : decode cX2_note 45 = .ok (.bipush 7, 2) := by decide +kernel
theorem dX2_note_47 : decode cX2_note 47 = .ok (.iadd, 1) := by decide +kernel
theorem dX2_note_48 : decode cX2_note 48 = .ok (.aload_n 1, 1) := by decide +kernel
theorem dX2_note_49 : decode cX2_note 49 = .ok (.getfield 27, 3) := by decide +kernel
theorem dX2_note_52 : decode cX2_note 52 = .ok (.iastore, 1) := by decide +kernel
theorem dX2_note_53 : decode cX2_note 53 = .ok (.aload_n 0, 1) := by decide +kernel
theorem dX2_note_54 : decode cX2_note 54 = .ok (.aload_n 0, 1) := by decide +kernel
theorem dX2_note_55 : decode cX2_note 55 = .ok (.getfield 19, 3) := by decide +kernel
theorem dX2_note_58 : decode cX2_note 58 = .ok (.iconst 1, 1) := by decide +kernel
theorem dX2_note_59 : decode cX2_note 59 = .ok (.iadd, 1) := by decide +kernel
theorem dX2_note_60 : decode cX2_note 60 = .ok (.bipush 20, 2) := by decide +kernel
theorem dX2_note_62 : decode cX2_note 62 = .ok (.irem, 1) := by decide +kernel
theorem dX2_note_63 : decode cX2_note 63 = .ok (.putfield 19, 3) := by decide +kernel
theorem dX2_note_66 : decode cX2_note 66 = .ok (.aload_n 0, 1) := by decide +kernel
theorem dX2_note_67 : decode cX2_note 67 = .ok (.bipush 20, 2) := by decide +kernel
theorem dX2_note_69 : decode cX2_note 69 = .ok (.aload_n 0, 1) := by decide +kernel
theorem dX2_note_70 : decode cX2_note 70 = .ok (.getfield 15, 3) := by decide +kernel
theorem dX2_note_73 : decode cX2_note 73 = .ok (.iconst 1, 1) := by decide +kernel
theorem dX2_note_74 : decode cX2_note 74 = .ok (.iadd, 1) := by decide +kernel
theorem dX2_note_75 : decode cX2_note 75 = .ok (.invokestatic 30, 3) := by decide +kernel
theorem dX2_note_78 : decode cX2_note 78 = .ok (.putfield 15, 3) := by decide +kernel
theorem dX2_note_81 : decode cX2_note 81 = .ok (.return_, 1) := by decide +kernel
theorem dX2_takeBack_0 : decode cX2_takeBack 0 = .ok (.aload_n 0, 1) := by decide +kernel
theorem dX2_takeBack_1 : decode cX2_takeBack 1 = .ok (.getfield 15, 3) := by decide +kernel
theorem dX2_takeBack_4 : decode cX2_takeBack 4 = .ok (.ifCond .ne 5, 3) := by decide +kernel
theorem dX2_takeBack_7 : decode cX2_takeBack 7 = .ok (.iconst 0, 1) := by decide +kernel
theorem dX2_takeBack_8 : decode cX2_takeBack 8 = .ok (.ireturn, 1) := by decide +kernel
theorem dX2_takeBack_9 : decode cX2_takeBack 9 = .ok (.aload_n 0, 1) := by decide +kernel
theorem dX2_takeBack_10 : decode cX2_takeBack 10 = .ok (.dup, 1) := by decide +kernel
theorem dX2_takeBack_11 : decode cX2_takeBack 11 = .ok (.getfield 15, 3) := by decide +kernel
theorem dX2_takeBack_14 : decode cX2_takeBack 14 = .ok (.iconst 1, 1) := by decide +kernel
theorem dX2_takeBack_15 : decode cX2_takeBack 15 = .ok (.isub, 1) := by decide +kernel
theorem dX2_takeBack_16 : decode cX2_takeBack 16 = .ok (.putfield 15, 3) := by decide +kernel
theorem dX2_takeBack_19 : decode cX2_takeBack 19 = .ok (.aload_n 0, 1) := by decide +kernel
theorem dX2_takeBack_20 : decode cX2_takeBack 20 = .ok (.aload_n 0, 1) := by decide +kernel
theorem dX2_takeBack_21 : decode cX2_takeBack 21 = .ok (.getfield 19, 3) := by decide +kernel
theorem dX2_takeBack_24 : decode cX2_takeBack 24 = .ok (.bipush 20, 2) := by decide +kernel
theorem dX2_takeBack_26 : decode cX2_takeBack 26 = .ok (.iadd, 1) := by decide +kernel
theorem dX2_takeBack_27 : decode cX2_takeBack 27 = .ok (.iconst 1, 1) := by decide +kernel
theorem dX2_takeBack_28 : decode cX2_takeBack 28 = .ok (.isub, 1) := by decide +kernel
theorem dX2_takeBack_29 : decode cX2_takeBack 29 = .ok (.bipush 20, 2) := by decide +kernel
theorem dX2_takeBack_31 : decode cX2_takeBack 31 = .ok (.irem, 1) := by decide +kernel
theorem dX2_takeBack_32 : decode cX2_takeBack 32 = .ok (.putfield 19, 3) := by decide +kernel
theorem dX2_takeBack_35 : decode cX2_takeBack 35 = .ok (.iconst 0, 1) := by decide +kernel
theorem dX2_takeBack_36 : decode cX2_takeBack 36 = .ok (.istore_n 2, 1) := by decide +kernel
theorem dX2_takeBack_37 : decode cX2_takeBack 37 = .ok (.iload_n 2, 1) := by decide +kernel
theorem dX2_takeBack_38 : decode cX2_takeBack 38 = .ok (.bipush 7, 2) := by decide +kernel
theorem dX2_takeBack_40 : decode cX2_takeBack 40 = .ok (.if_icmp .ge 29, 3) := by decide +kernel
theorem dX2_takeBack_43 : decode cX2_takeBack 43 = .ok (.aload_n 1, 1) := by decide +kernel
theorem dX2_takeBack_44 : decode cX2_takeBack 44 = .ok (.getfield 22, 3) := by decide +kernel
theorem dX2_takeBack_47 : decode cX2_takeBack 47 = .ok (.iload_n 2, 1) := by decide +kernel
theorem dX2_takeBack_48 : decode cX2_takeBack 48 = .ok (.aload_n 0, 1) := by decide +kernel
theorem dX2_takeBack_49 : decode cX2_takeBack 49 = .ok (.getfield 11, 3) := by decide +kernel
theorem dX2_takeBack_52 : decode cX2_takeBack 52 = .ok (.aload_n 0, 1) := by decide +kernel
theorem dX2_takeBack_53 : decode cX2_takeBack 53 = .ok (.getfield 19, 3) := by decide +kernel
theorem dX2_takeBack_56 : decode cX2_takeBack 56 = .ok (.bipush 8, 2) := by decide +kernel
theorem dX2_takeBack_58 : decode cX2_takeBack 58 = .ok (.imul, 1) := by decide +kernel
theorem dX2_takeBack_59 : decode cX2_takeBack 59 = .ok (.iload_n 2, 1) := by decide +kernel
theorem dX2_takeBack_60 : decode cX2_takeBack 60 = .ok (.iadd, 1) := by decide +kernel
theorem dX2_takeBack_61 : decode cX2_takeBack 61 = .ok (.iaload, 1) := by decide +kernel
theorem dX2_takeBack_62 : decode cX2_takeBack 62 = .ok (.iastore, 1) := by decide +kernel
theorem dX2_takeBack_63 : decode cX2_takeBack 63 = .ok (.iinc 2 1, 3) := by decide +kernel
theorem dX2_takeBack_66 : decode cX2_takeBack 66 = .ok (.goto (-29), 3) := by decide +kernel
theorem dX2_takeBack_69 : decode cX2_takeBack 69 = .ok (.aload_n 1, 1) := by decide +kernel
theorem dX2_takeBack_70 : decode cX2_takeBack 70 = .ok (.aload_n 0, 1) := by decide +kernel
theorem dX2_takeBack_71 : decode cX2_takeBack 71 = .ok (.getfield 11, 3) := by decide +kernel
theorem dX2_takeBack_74 : decode cX2_takeBack 74 = .ok (.aload_n 0, 1) := by decide +kernel
theorem dX2_takeBack_75 : decode cX2_takeBack 75 = .ok (.getfield 19, 3) := by decide +kernel
theorem dX2_takeBack_78 : decode cX2_takeBack 78 = .ok (.bipush 8, 2) := by decide +kernel
theorem dX2_takeBack_80 : decode cX2_takeBack 80 = .ok (.imul, 1) := by decide +kernel
theorem dX2_takeBack_81 : decode cX2_takeBack 81 = .ok (.bipush 7, 2) := by decide +kernel
theorem dX2_takeBack_83 : decode cX2_takeBack 83 = .ok (.iadd, 1) := by decide +kernel
theorem dX2_takeBack_84 : decode cX2_takeBack 84 = .ok (.iaload, 1) := by decide +kernel
theorem dX2_takeBack_85 : decode cX2_takeBack 85 = .ok (.putfield 27, 3) := by decide +kernel
theorem dX2_takeBack_88 : decode cX2_takeBack 88 = .ok (.iconst 1, 1) := by decide +kernel
theorem dX2_takeBack_89 : decode cX2_takeBack 89 = .ok (.ireturn, 1) := by decide +kernel
theorem dX3_init_0 : decode cX3_init 0 = .ok (.aload_n 0, 1) := by decide +kernel
theorem dX3_init_1 : decode cX3_init 1 = .ok (.invokespecial 3, 3) := by decide +kernel
theorem dX3_init_4 : decode cX3_init 4 = .ok (.aload_n 0, 1) := by decide +kernel
theorem dX3_init_5 : decode cX3_init 5 = .ok (.bipush 64, 2) := by decide +kernel
theorem dX3_init_7 : decode cX3_init 7 = .ok (.newarray .int, 2) := by decide +kernel
theorem dX3_init_9 : decode cX3_init 9 = .ok (.putfield 9, 3) := by decide +kernel
theorem dX3_init_12 : decode cX3_init 12 = .ok (.aload_n 0, 1) := by decide +kernel
theorem dX3_init_13 : decode cX3_init 13 = .ok (.bipush 64, 2) := by decide +kernel
theorem dX3_init_15 : decode cX3_init 15 = .ok (.newarray .int, 2) := by decide +kernel
theorem dX3_init_17 : decode cX3_init 17 = .ok (.putfield 15, 3) := by decide +kernel
theorem dX3_init_20 : decode cX3_init 20 = .ok (.aload_n 0, 1) := by decide +kernel
theorem dX3_init_21 : decode cX3_init 21 = .ok (.iconst 3, 1) := by decide +kernel
theorem dX3_init_22 : decode cX3_init 22 = .ok (.newarray .int, 2) := by decide +kernel
theorem dX3_init_24 : decode cX3_init 24 = .ok (.putfield 18, 3) := by decide +kernel
theorem dX3_init_27 : decode cX3_init 27 = .ok (.aload_n 0, 1) := by decide +kernel
theorem dX3_init_28 : decode cX3_init 28 = .ok (.iconst 3, 1) := by decide +kernel
theorem dX3_init_29 : decode cX3_init 29 = .ok (.newarray .int, 2) := by decide +kernel
theorem dX3_init_31 : decode cX3_init 31 = .ok (.putfield 21, 3) := by decide +kernel
theorem dX3_init_34 : decode cX3_init 34 = .ok (.aload_n 0, 1) := by decide +kernel
theorem dX3_init_35 : decode cX3_init 35 = .ok (.bipush 64, 2) := by decide +kernel
theorem dX3_init_37 : decode cX3_init 37 = .ok (.newarray .long, 2) := by decide +kernel
theorem dX3_init_39 : decode cX3_init 39 = .ok (.putfield 24, 3) := by decide +kernel
theorem dX3_init_42 : decode cX3_init 42 = .ok (.return_, 1) := by decide +kernel
theorem dX3_clear_0 : decode cX3_clear 0 = .ok (.aload_n 0, 1) := by decide +kernel
theorem dX3_clear_1 : decode cX3_clear 1 = .ok (.iconst 0, 1) := by decide +kernel
theorem dX3_clear_2 : decode cX3_clear 2 = .ok (.putfield 28, 3) := by decide +kernel
theorem dX3_clear_5 : decode cX3_clear 5 = .ok (.iconst 0, 1) := by decide +kernel
theorem dX3_clear_6 : decode cX3_clear 6 = .ok (.istore_n 1, 1) := by decide +kernel
theorem dX3_clear_7 : decode cX3_clear 7 = .ok (.iload_n 1, 1) := by decide +kernel
theorem dX3_clear_8 : decode cX3_clear 8 = .ok (.iconst 3, 1) := by decide +kernel
theorem dX3_clear_9 : decode cX3_clear 9 = .ok (.if_icmp .ge 23, 3) := by decide +kernel
theorem dX3_clear_12 : decode cX3_clear 12 = .ok (.aload_n 0, 1) := by decide +kernel
theorem dX3_clear_13 : decode cX3_clear 13 = .ok (.getfield 18, 3) := by decide +kernel
theorem dX3_clear_16 : decode cX3_clear 16 = .ok (.iload_n 1, 1) := by decide +kernel
theorem dX3_clear_17 : decode cX3_clear 17 = .ok (.iconst 0, 1) := by decide +kernel
theorem dX3_clear_18 : decode cX3_clear 18 = .ok (.iastore, 1) := by decide +kernel
theorem dX3_clear_19 : decode cX3_clear 19 = .ok (.aload_n 0, 1) := by decide +kernel
theorem dX3_clear_20 : decode cX3_clear 20 = .ok (.getfield 21, 3) := by decide +kernel
theorem dX3_clear_23 : decode cX3_clear 23 = .ok (.iload_n 1, 1) := by decide +kernel
theorem dX3_clear_24 : decode cX3_clear 24 = .ok (.iconst 0, 1) := by decide +kernel
theorem dX3_clear_25 : decode cX3_clear 25 = .ok (.iastore, 1) := by decide +kernel
theorem dX3_clear_26 : decode cX3_clear 26 = .ok (.iinc 1 1, 3) := by decide +kernel
theorem dX3_clear_29 : decode cX3_clear 29 = .ok (.goto (-22), 3) := by decide +kernel
theorem dX3_clear_32 : decode cX3_clear 32 = .ok (.return_, 1) := by decide +kernel
theorem dX3_begin_0 : decode cX3_begin 0 = .ok (.aload_n 0, 1) := by decide +kernel
theorem dX3_begin_1 : decode cX3_begin 1 = .ok (.getfield 18, 3) := by decide +kernel
theorem dX3_begin_4 : decode cX3_begin 4 = .ok (.iload_n 1, 1) := by decide +kernel
theorem dX3_begin_5 : decode cX3_begin 5 = .ok (.aload_n 0, 1) := by decide +kernel
theorem dX3_begin_6 : decode cX3_begin 6 = .ok (.getfield 28, 3) := by decide +kernel
theorem dX3_begin_9 : decode cX3_begin 9 = .ok (.iastore, 1) := by decide +kernel
theorem dX3_begin_10 : decode cX3_begin 10 = .ok (.return_, 1) := by decide +kernel
theorem dX3_end_0 : decode cX3_end 0 = .ok (.aload_n 0, 1) := by decide +kernel
theorem dX3_end_1 : decode cX3_end 1 = .ok (.getfield 21, 3) := by decide +kernel
theorem dX3_end_4 : decode cX3_end 4 = .ok (.iload_n 1, 1) := by decide +kernel
theorem dX3_end_5 : decode cX3_end 5 = .ok (.aload_n 0, 1) := by decide +kernel
theorem dX3_end_6 : decode cX3_end 6 = .ok (.getfield 28, 3) := by decide +kernel
theorem dX3_end_9 : decode cX3_end 9 = .ok (.iastore, 1) := by decide +kernel
theorem dX3_end_10 : decode cX3_end 10 = .ok (.return_, 1) := by decide +kernel
theorem dX3_add_0 : decode cX3_add 0 = .ok (.aload_n 0, 1) := by decide +kernel
theorem dX3_add_1 : decode cX3_add 1 = .ok (.getfield 28, 3) := by decide +kernel
theorem dX3_add_4 : decode cX3_add 4 = .ok (.bipush 64, 2) := by decide +kernel
theorem dX3_add_6 : decode cX3_add 6 = .ok (.if_icmp .ge 33, 3) := by decide +kernel
theorem dX3_add_9 : decode cX3_add 9 = .ok (.aload_n 0, 1) := by decide +kernel
theorem dX3_add_10 : decode cX3_add 10 = .ok (.getfield 9, 3) := by decide +kernel
theorem dX3_add_13 : decode cX3_add 13 = .ok (.aload_n 0, 1) := by decide +kernel
theorem dX3_add_14 : decode cX3_add 14 = .ok (.getfield 28, 3) := by decide +kernel
theorem dX3_add_17 : decode cX3_add 17 = .ok (.iload_n 1, 1) := by decide +kernel
theorem dX3_add_18 : decode cX3_add 18 = .ok (.iastore, 1) := by decide +kernel
theorem dX3_add_19 : decode cX3_add 19 = .ok (.aload_n 0, 1) := by decide +kernel
theorem dX3_add_20 : decode cX3_add 20 = .ok (.getfield 15, 3) := by decide +kernel
theorem dX3_add_23 : decode cX3_add 23 = .ok (.aload_n 0, 1) := by decide +kernel
theorem dX3_add_24 : decode cX3_add 24 = .ok (.getfield 28, 3) := by decide +kernel
theorem dX3_add_27 : decode cX3_add 27 = .ok (.iload_n 2, 1) := by decide +kernel
theorem dX3_add_28 : decode cX3_add 28 = .ok (.iastore, 1) := by decide +kernel
theorem dX3_add_29 : decode cX3_add 29 = .ok (.aload_n 0, 1) := by decide +kernel
theorem dX3_add_30 : decode cX3_add 30 = .ok (.dup, 1) := by decide +kernel
theorem dX3_add_31 : decode cX3_add 31 = .ok (.getfield 28, 3) := by decide +kernel
theorem dX3_add_34 : decode cX3_add 34 = .ok (.iconst 1, 1) := by decide +kernel
theorem dX3_add_35 : decode cX3_add 35 = .ok (.iadd, 1) := by decide +kernel
theorem dX3_add_36 : decode cX3_add 36 = .ok (.putfield 28, 3) := by decide +kernel
theorem dX3_add_39 : decode cX3_add 39 = .ok (.return_, 1) := by decide +kernel
theorem dX3_isTold_0 : decode cX3_isTold 0 = .ok (.aload_n 0, 1) := by decide +kernel
theorem dX3_isTold_1 : decode cX3_isTold 1 = .ok (.getfield 21, 3) := by decide +kernel
theorem dX3_isTold_4 : decode cX3_isTold 4 = .ok (.iload_n 1, 1) := by decide +kernel
theorem dX3_isTold_5 : decode cX3_isTold 5 = .ok (.iaload, 1) := by decide +kernel
theorem dX3_isTold_6 : decode cX3_isTold 6 = .ok (.aload_n 0, 1) := by decide +kernel
theorem dX3_isTold_7 : decode cX3_isTold 7 = .ok (.getfield 18, 3) := by decide +kernel
theorem dX3_isTold_10 : decode cX3_isTold 10 = .ok (.iload_n 1, 1) := by decide +kernel
theorem dX3_isTold_11 : decode cX3_isTold 11 = .ok (.iaload, 1) := by decide +kernel
theorem dX3_isTold_12 : decode cX3_isTold 12 = .ok (.if_icmp .le 7, 3) := by decide +kernel
theorem dX3_isTold_15 : decode cX3_isTold 15 = .ok (.iconst 1, 1) := by decide +kernel
theorem dX3_isTold_16 : decode cX3_isTold 16 = .ok (.goto 4, 3) := by decide +kernel
theorem dX3_isTold_19 : decode cX3_isTold 19 = .ok (.iconst 0, 1) := by decide +kernel
theorem dX3_isTold_20 : decode cX3_isTold 20 = .ok (.ireturn, 1) := by decide +kernel
theorem dX3_worth_0 : decode cX3_worth 0 = .ok (.iconst 0, 1) := by decide +kernel
theorem dX3_worth_1 : decode cX3_worth 1 = .ok (.istore_n 3, 1) := by decide +kernel
theorem dX3_worth_2 : decode cX3_worth 2 = .ok (.aload_n 0, 1) := by decide +kernel
theorem dX3_worth_3 : decode cX3_worth 3 = .ok (.getfield 18, 3) := by decide +kernel
theorem dX3_worth_6 : decode cX3_worth 6 = .ok (.iload_n 1, 1) := by decide +kernel
theorem dX3_worth_7 : decode cX3_worth 7 = .ok (.iaload, 1) := by decide +kernel
theorem dX3_worth_8 : decode cX3_worth 8 = .ok (.istore 4, 2) := by decide +kernel
theorem dX3_worth_10 : decode cX3_worth 10 = .ok (.iload 4, 2) := by decide +kernel
theorem dX3_worth_12 : decode cX3_worth 12 = .ok (.aload_n 0, 1) := by decide +kernel
theorem dX3_worth_13 : decode cX3_worth 13 = .ok (.getfield 21, 3) := by decide +kernel
theorem dX3_worth_16 : decode cX3_worth 16 = .ok (.iload_n 1, 1) := by decide +kernel
theorem dX3_worth_17 : decode cX3_worth 17 = .ok (.iaload, 1) := by decide +kernel
theorem dX3_worth_18 : decode cX3_worth 18 = .ok (.if_icmp .ge 188, 3) := by decide +kernel
theorem dX3_worth_21 : decode cX3_worth 21 = .ok (.aload_n 0, 1) := by decide +kernel
theorem dX3_worth_22 : decode cX3_worth 22 = .ok (.getfield 9, 3) := by decide +kernel
theorem dX3_worth_25 : decode cX3_worth 25 = .ok (.iload 4, 2) := by decide +kernel
theorem dX3_worth_27 : decode cX3_worth 27 = .ok (.iaload, 1) := by decide +kernel
theorem dX3_worth_28 : decode cX3_worth 28 = .ok (.istore 5, 2) := by decide +kernel
theorem dX3_worth_30 : decode cX3_worth 30 = .ok (.iload 5, 2) := by decide +kernel
theorem dX3_worth_32 : decode cX3_worth 32 = .ok (.bipush 23, 2) := by decide +kernel
theorem dX3_worth_34 : decode cX3_worth 34 = .ok (.if_icmp .ne 29, 3) := by decide +kernel
theorem dX3_worth_37 : decode cX3_worth 37 = .ok (.iload_n 3, 1) := by decide +kernel
theorem dX3_worth_38 : decode cX3_worth 38 = .ok (.bipush 64, 2) := by decide +kernel
theorem dX3_worth_40 : decode cX3_worth 40 = .ok (.if_icmp .ge 23, 3) := by decide +kernel
theorem dX3_worth_43 : decode cX3_worth 43 = .ok (.aload_n 0, 1) := by decide +kernel
theorem dX3_worth_44 : decode cX3_worth 44 = .ok (.getfield 24, 3) := by decide +kernel
theorem dX3_worth_47 : decode cX3_worth 47 = .ok (.iload_n 3, 1) := by decide +kernel
theorem dX3_worth_48 : decode cX3_worth 48 = .ok (.aload_n 0, 1) := by decide +kernel
theorem dX3_worth_49 : decode cX3_worth 49 = .ok (.getfield 15, 3) := by decide +kernel
theorem dX3_worth_52 : decode cX3_worth 52 = .ok (.iload 4, 2) := by decide +kernel
theorem dX3_worth_54 : decode cX3_worth 54 = .ok (.iaload, 1) := by decide +kernel
theorem dX3_worth_55 : decode cX3_worth 55 = .ok (.i2l, 1) := by decide +kernel
theorem dX3_worth_56 : decode cX3_worth 56 = .ok (.lastore, 1) := by decide +kernel
theorem dX3_worth_57 : decode cX3_worth 57 = .ok (.iinc 3 1, 3) := by decide +kernel
theorem dX3_worth_60 : decode cX3_worth 60 = .ok (.goto 140, 3) := by decide +kernel
theorem dX3_worth_63 : decode cX3_worth 63 = .ok (.iload 5, 2) := by decide +kernel
theorem dX3_worth_65 : decode cX3_worth 65 = .ok (.bipush 15, 2) := by decide +kernel
theorem dX3_worth_67 : decode cX3_worth 67 = .ok (.if_icmp .lt 35, 3) := by decide +kernel
theorem dX3_worth_70 : decode cX3_worth 70 = .ok (.iload 5, 2) := by decide +kernel
theorem dX3_worth_72 : decode cX3_worth 72 = .ok (.bipush 21, 2) := by decide +kernel
theorem dX3_worth_74 : decode cX3_worth 74 = .ok (.if_icmp .gt 28, 3) := by decide +kernel
theorem dX3_worth_77 : decode cX3_worth 77 = .ok (.iload_n 3, 1) := by decide +kernel
theorem dX3_worth_78 : decode cX3_worth 78 = .ok (.bipush 64, 2) := by decide +kernel
theorem dX3_worth_80 : decode cX3_worth 80 = .ok (.if_icmp .ge 22, 3) := by decide +kernel
theorem dX3_worth_83 : decode cX3_worth 83 = .ok (.aload_n 0, 1) := by decide +kernel
theorem dX3_worth_84 : decode cX3_worth 84 = .ok (.getfield 24, 3) := by decide +kernel
theorem dX3_worth_87 : decode cX3_worth 87 = .ok (.iload_n 3, 1) := by decide +kernel
theorem dX3_worth_88 : decode cX3_worth 88 = .ok (.aload_n 2, 1) := by decide +kernel
theorem dX3_worth_89 : decode cX3_worth 89 = .ok (.iload 5, 2) := by decide +kernel
theorem dX3_worth_91 : decode cX3_worth 91 = .ok (.bipush 15, 2) := by decide +kernel
theorem dX3_worth_93 : decode cX3_worth 93 = .ok (.isub, 1) := by decide +kernel
theorem dX3_worth_94 : decode cX3_worth 94 = .ok (.laload, 1) := by decide +kernel
theorem dX3_worth_95 : decode cX3_worth 95 = .ok (.lastore, 1) := by decide +kernel
theorem dX3_worth_96 : decode cX3_worth 96 = .ok (.iinc 3 1, 3) := by decide +kernel
theorem dX3_worth_99 : decode cX3_worth 99 = .ok (.goto 101, 3) := by decide +kernel
theorem dX3_worth_102 : decode cX3_worth 102 = .ok (.iload 5, 2) := by decide +kernel
theorem dX3_worth_104 : decode cX3_worth 104 = .ok (.bipush 14, 2) := by decide +kernel
theorem dX3_worth_106 : decode cX3_worth 106 = .ok (.if_icmp .ne 40, 3) := by decide +kernel
theorem dX3_worth_109 : decode cX3_worth 109 = .ok (.iload_n 3, 1) := by decide +kernel
theorem dX3_worth_110 : decode cX3_worth 110 = .ok (.iconst 1, 1) := by decide +kernel
theorem dX3_worth_111 : decode cX3_worth 111 = .ok (.if_icmp .lt 35, 3) := by decide +kernel
theorem dX3_worth_114 : decode cX3_worth 114 = .ok (.aload_n 0, 1) := by decide +kernel
theorem dX3_worth_115 : decode cX3_worth 115 = .ok (.getfield 24, 3) := by decide +kernel
theorem dX3_worth_118 : decode cX3_worth 118 = .ok (.iload_n 3, 1) := by decide +kernel
theorem dX3_worth_119 : decode cX3_worth 119 = .ok (.iconst 1, 1) := by decide +kernel
theorem dX3_worth_120 : decode cX3_worth 120 = .ok (.isub, 1) := by decide +kernel
theorem dX3_worth_121 : decode cX3_worth 121 = .ok (.aload_n 0, 1) := by decide +kernel
theorem dX3_worth_122 : decode cX3_worth 122 = .ok (.getfield 24, 3) := by decide +kernel
theorem dX3_worth_125 : decode cX3_worth 125 = .ok (.iload_n 3, 1) := by decide +kernel
theorem dX3_worth_126 : decode cX3_worth 126 = .ok (.iconst 1, 1) := by decide +kernel
theorem dX3_worth_127 : decode cX3_worth 127 = .ok (.isub, 1) := by decide +kernel
theorem dX3_worth_128 : decode cX3_worth 128 = .ok (.laload, 1) := by decide +kernel
theorem dX3_worth_129 : decode cX3_worth 129 = .ok (.lconst 0, 1) := by decide +kernel
theorem dX3_worth_130 : decode cX3_worth 130 = .ok (.lcmp, 1) := by decide +kernel
theorem dX3_worth_131 : decode cX3_worth 131 = .ok (.ifCond .ne 7, 3) := by decide +kernel
theorem dX3_worth_134 : decode cX3_worth 134 = .ok (.iconst 1, 1) := by decide +kernel
theorem dX3_worth_135 : decode cX3_worth 135 = .ok (.goto 4, 3) := by decide +kernel
theorem dX3_worth_138 : decode cX3_worth 138 = .ok (.iconst 0, 1) := by decide +kernel
theorem dX3_worth_139 : decode cX3_worth 139 = .ok (.invokestatic 32, 3) := by decide +kernel
theorem dX3_worth_142 : decode cX3_worth 142 = .ok (.lastore, 1) := by decide +kernel
theorem dX3_worth_143 : decode cX3_worth 143 = .ok (.goto 57, 3) := by decide +kernel
theorem dX3_worth_146 : decode cX3_worth 146 = .ok (.iload_n 3, 1) := by decide +kernel
theorem dX3_worth_147 : decode cX3_worth 147 = .ok (.iconst 2, 1) := by decide +kernel
theorem dX3_worth_148 : decode cX3_worth 148 = .ok (.if_icmp .lt 52, 3) := by decide +kernel
theorem dX3_worth_151 : decode cX3_worth 151 = .ok (.iinc 3 (-1), 3) := by decide +kernel
theorem dX3_worth_154 : decode cX3_worth 154 = .ok (.aload_n 0, 1) := by decide +kernel
theorem dX3_worth_155 : decode cX3_worth 155 = .ok (.getfield 24, 3) := by decide +kernel
theorem dX3_worth_158 : decode cX3_worth 158 = .ok (.iload_n 3, 1) := by decide +kernel
theorem dX3_worth_159 : decode cX3_worth 159 = .ok (.iconst 1, 1) := by decide +kernel
theorem dX3_worth_160 : decode cX3_worth 160 = .ok (.isub, 1) := by decide +kernel
theorem dX3_worth_161 : decode cX3_worth 161 = .ok (.iload 5, 2) := by decide +kernel
theorem dX3_worth_163 : decode cX3_worth 163 = .ok (.aload_n 0, 1) := by decide +kernel
theorem dX3_worth_164 : decode cX3_worth 164 = .ok (.getfield 24, 3) := by decide +kernel
theorem dX3_worth_167 : decode cX3_worth 167 = .ok (.iload_n 3, 1) := by decide +kernel
theorem dX3_worth_168 : decode cX3_worth 168 = .ok (.iconst 1, 1) := by decide +kernel
theorem dX3_worth_169 : decode cX3_worth 169 = .ok (.isub, 1) := by decide +kernel
theorem dX3_worth_170 : decode cX3_worth 170 = .ok (.laload, 1) := by decide +kernel
theorem dX3_worth_171 : decode cX3_worth 171 = .ok (.aload_n 0, 1) := by decide +kernel
theorem dX3_worth_172 : decode cX3_worth 172 = .ok (.getfield 24, 3) := by decide +kernel
theorem dX3_worth_175 : decode cX3_worth 175 = .ok (.iload_n 3, 1) := by decide +kernel
theorem dX3_worth_176 : decode cX3_worth 176 = .ok (.laload, 1) := by decide +kernel
theorem dX3_worth_177 : decode cX3_worth 177 = .ok (.invokestatic 36, 3) := by decide +kernel
theorem dX3_worth_180 : decode cX3_worth 180 = .ok (.lastore, 1) := by decide +kernel
theorem dX3_worth_181 : decode cX3_worth 181 = .ok (.aload_n 0, 1) := by decide +kernel
theorem dX3_worth_182 : decode cX3_worth 182 = .ok (.getfield 24, 3) := by decide +kernel
theorem dX3_worth_185 : decode cX3_worth 185 = .ok (.iload_n 3, 1) := by decide +kernel
theorem dX3_worth_186 : decode cX3_worth 186 = .ok (.iconst 1, 1) := by decide +kernel
theorem dX3_worth_187 : decode cX3_worth 187 = .ok (.isub, 1) := by decide +kernel
theorem dX3_worth_188 : decode cX3_worth 188 = .ok (.laload, 1) := by decide +kernel
theorem dX3_worth_189 : decode cX3_worth 189 = .ok (.ldc2_w 40, 3) := by decide +kernel
theorem dX3_worth_192 : decode cX3_worth 192 = .ok (.lcmp, 1) := by decide +kernel
theorem dX3_worth_193 : decode cX3_worth 193 = .ok (.ifCond .ne 7, 3) := by decide +kernel
theorem dX3_worth_196 : decode cX3_worth 196 = .ok (.ldc2_w 40, 3) := by decide +kernel
theorem dX3_worth_199 : decode cX3_worth 199 = .ok (.lreturn, 1) := by decide +kernel
theorem dX3_worth_200 : decode cX3_worth 200 = .ok (.iinc 4 1, 3) := by decide +kernel
theorem dX3_worth_203 : decode cX3_worth 203 = .ok (.goto (-193), 3) := by decide +kernel
theorem dX3_worth_206 : decode cX3_worth 206 = .ok (.iload_n 3, 1) := by decide +kernel
theorem dX3_worth_207 : decode cX3_worth 207 = .ok (.iconst 1, 1) := by decide +kernel
theorem dX3_worth_208 : decode cX3_worth 208 = .ok (.if_icmp .ne 12, 3) := by decide +kernel
theorem dX3_worth_211 : decode cX3_worth 211 = .ok (.aload_n 0, 1) := by decide +kernel
theorem dX3_worth_212 : decode cX3_worth 212 = .ok (.getfield 24, 3) := by decide +kernel
theorem dX3_worth_215 : decode cX3_worth 215 = .ok (.iconst 0, 1) := by decide +kernel
theorem dX3_worth_216 : decode cX3_worth 216 = .ok (.laload, 1) := by decide +kernel
theorem dX3_worth_217 : decode cX3_worth 217 = .ok (.goto 6, 3) := by decide +kernel
theorem dX3_worth_220 : decode cX3_worth 220 = .ok (.ldc2_w 40, 3) := by decide +kernel
theorem dX3_worth_223 : decode cX3_worth 223 = .ok (.lreturn, 1) := by decide +kernel
theorem dX3_valueOf_0 : decode cX3_valueOf 0 = .ok (.iload_n 0, 1) := by decide +kernel
theorem dX3_valueOf_1 : decode cX3_valueOf 1 = .ok (.tableswitch 283 12 36 #[115, 136, 283, 283, 283, 283, 283, 283, 283, 283, 283, 283, 283, 283, 283, 247, 254, 261, 267, 157, 187, 217, 202, 232, 172], 115) := by decide +kernel
theorem dX3_valueOf_116 : decode cX3_valueOf 116 = .ok (.lload_n 1, 1) := by decide +kernel
theorem dX3_valueOf_117 : decode cX3_valueOf 117 = .ok (.lconst 0, 1) := by decide +kernel
theorem dX3_valueOf_118 : decode cX3_valueOf 118 = .ok (.lcmp, 1) := by decide +kernel
theorem dX3_valueOf_119 : decode cX3_valueOf 119 = .ok (.ifCond .ne 9, 3) := by decide +kernel
theorem dX3_valueOf_122 : decode cX3_valueOf 122 = .ok (.lload_n 3, 1) := by decide +kernel
theorem dX3_valueOf_123 : decode cX3_valueOf 123 = .ok (.lconst 0, 1) := by decide +kernel
theorem dX3_valueOf_124 : decode cX3_valueOf 124 = .ok (.lcmp, 1) := by decide +kernel
theorem dX3_valueOf_125 : decode cX3_valueOf 125 = .ok (.ifCond .eq 7, 3) := by decide +kernel
theorem dX3_valueOf_128 : decode cX3_valueOf 128 = .ok (.iconst 1, 1) := by decide +kernel
theorem dX3_valueOf_129 : decode cX3_valueOf 129 = .ok (.goto 4, 3) := by decide +kernel
theorem dX3_valueOf_132 : decode cX3_valueOf 132 = .ok (.iconst 0, 1) := by decide +kernel
theorem dX3_valueOf_133 : decode cX3_valueOf 133 = .ok (.invokestatic 32, 3) := by decide +kernel
theorem dX3_valueOf_136 : decode cX3_valueOf 136 = .ok (.lreturn, 1) := by decide +kernel
theorem dX3_valueOf_137 : decode cX3_valueOf 137 = .ok (.lload_n 1, 1) := by decide +kernel
theorem dX3_valueOf_138 : decode cX3_valueOf 138 = .ok (.lconst 0, 1) := by decide +kernel
theorem dX3_valueOf_139 : decode cX3_valueOf 139 = .ok (.lcmp, 1) := by decide +kernel
theorem dX3_valueOf_140 : decode cX3_valueOf 140 = .ok (.ifCond .eq 13, 3) := by decide +kernel
theorem dX3_valueOf_143 : decode cX3_valueOf 143 = .ok (.lload_n 3, 1) := by decide +kernel
theorem dX3_valueOf_144 : decode cX3_valueOf 144 = .ok (.lconst 0, 1) := by decide +kernel
theorem dX3_valueOf_145 : decode cX3_valueOf 145 = .ok (.lcmp, 1) := by decide +kernel
theorem dX3_valueOf_146 : decode cX3_valueOf 146 = .ok (.ifCond .eq 7, 3) := by decide +kernel
theorem dX3_valueOf_149 : decode cX3_valueOf 149 = .ok (.iconst 1, 1) := by decide +kernel
theorem dX3_valueOf_150 : decode cX3_valueOf 150 = .ok (.goto 4, 3) := by decide +kernel
theorem dX3_valueOf_153 : decode cX3_valueOf 153 = .ok (.iconst 0, 1) := by decide +kernel
theorem dX3_valueOf_154 : decode cX3_valueOf 154 = .ok (.invokestatic 32, 3) := by decide +kernel
theorem dX3_valueOf_157 : decode cX3_valueOf 157 = .ok (.lreturn, 1) := by decide +kernel
theorem dX3_valueOf_158 : decode cX3_valueOf 158 = .ok (.lload_n 1, 1) := by decide +kernel
theorem dX3_valueOf_159 : decode cX3_valueOf 159 = .ok (.lload_n 3, 1) := by decide +kernel
theorem dX3_valueOf_160 : decode cX3_valueOf 160 = .ok (.lcmp, 1) := by decide +kernel
theorem dX3_valueOf_161 : decode cX3_valueOf 161 = .ok (.ifCond .ne 7, 3) := by decide +kernel
theorem dX3_valueOf_164 : decode cX3_valueOf 164 = .ok (.iconst 1, 1) := by decide +kernel
theorem dX3_valueOf_165 : decode cX3_valueOf 165 = .ok (.goto 4, 3) := by decide +kernel
theorem dX3_valueOf_168 : decode cX3_valueOf 168 = .ok (.iconst 0, 1) := by decide +kernel
theorem dX3_valueOf_169 : decode cX3_valueOf 169 = .ok (.invokestatic 32, 3) := by decide +kernel
theorem dX3_valueOf_172 : decode cX3_valueOf 172 = .ok (.lreturn, 1) := by decide +kernel
theorem dX3_valueOf_173 : decode cX3_valueOf 173 = .ok (.lload_n 1, 1) := by decide +kernel
theorem dX3_valueOf_174 : decode cX3_valueOf 174 = .ok (.lload_n 3, 1) := by decide +kernel
theorem dX3_valueOf_175 : decode cX3_valueOf 175 = .ok (.lcmp, 1) := by decide +kernel
theorem dX3_valueOf_176 : decode cX3_valueOf 176 = .ok (.ifCond .eq 7, 3) := by decide +kernel
theorem dX3_valueOf_179 : decode cX3_valueOf 179 = .ok (.iconst 1, 1) := by decide +kernel
theorem dX3_valueOf_180 : decode cX3_valueOf 180 = .ok (.goto 4, 3) := by decide +kernel
theorem dX3_valueOf_183 : decode cX3_valueOf 183 = .ok (.iconst 0, 1) := by decide +kernel
theorem dX3_valueOf_184 : decode cX3_valueOf 184 = .ok (.invokestatic 32, 3) := by decide +kernel
theorem dX3_valueOf_187 : decode cX3_valueOf 187 = .ok (.lreturn, 1) := by decide +kernel
theorem dX3_valueOf_188 : decode cX3_valueOf 188 = .ok (.lload_n 1, 1) := by decide +kernel
theorem dX3_valueOf_189 : decode cX3_valueOf 189 = .ok (.lload_n 3, 1) := by decide +kernel
theorem dX3_valueOf_190 : decode cX3_valueOf 190 = .ok (.lcmp, 1) := by decide +kernel
theorem dX3_valueOf_191 : decode cX3_valueOf 191 = .ok (.ifCond .ge 7, 3) := by decide +kernel
theorem dX3_valueOf_194 : decode cX3_valueOf 194 = .ok (.iconst 1, 1) := by decide +kernel
theorem dX3_valueOf_195 : decode cX3_valueOf 195 = .ok (.goto 4, 3) := by decide +kernel
theorem dX3_valueOf_198 : decode cX3_valueOf 198 = .ok (.iconst 0, 1) := by decide +kernel
theorem dX3_valueOf_199 : decode cX3_valueOf 199 = .ok (.invokestatic 32, 3) := by decide +kernel
theorem dX3_valueOf_202 : decode cX3_valueOf 202 = .ok (.lreturn, 1) := by decide +kernel
theorem dX3_valueOf_203 : decode cX3_valueOf 203 = .ok (.lload_n 1, 1) := by decide +kernel
theorem dX3_valueOf_204 : decode cX3_valueOf 204 = .ok (.lload_n 3, 1) := by decide +kernel
theorem dX3_valueOf_205 : decode cX3_valueOf 205 = .ok (.lcmp, 1) := by decide +kernel
theorem dX3_valueOf_206 : decode cX3_valueOf 206 = .ok (.ifCond .gt 7, 3) := by decide +kernel
theorem dX3_valueOf_209 : decode cX3_valueOf 209 = .ok (.iconst 1, 1) := by decide +kernel
theorem dX3_valueOf_210 : decode cX3_valueOf 210 = .ok (.goto 4, 3) := by decide +kernel
theorem dX3_valueOf_213 : decode cX3_valueOf 213 = .ok (.iconst 0, 1) := by decide +kernel
theorem dX3_valueOf_214 : decode cX3_valueOf 214 = .ok (.invokestatic 32, 3) := by decide +kernel
theorem dX3_valueOf_217 : decode cX3_valueOf 217 = .ok (.lreturn, 1) := by decide +kernel
theorem dX3_valueOf_218 : decode cX3_valueOf 218 = .ok (.lload_n 1, 1) := by decide +kernel
theorem dX3_valueOf_219 : decode cX3_valueOf 219 = .ok (.lload_n 3, 1) := by decide +kernel
theorem dX3_valueOf_220 : decode cX3_valueOf 220 = .ok (.lcmp, 1) := by decide +kernel
theorem dX3_valueOf_221 : decode cX3_valueOf 221 = .ok (.ifCond .le 7, 3) := by decide +kernel
theorem dX3_valueOf_224 : decode cX3_valueOf 224 = .ok (.iconst 1, 1) := by decide +kernel
theorem dX3_valueOf_225 : decode cX3_valueOf 225 = .ok (.goto 4, 3) := by decide +kernel
theorem dX3_valueOf_228 : decode cX3_valueOf 228 = .ok (.iconst 0, 1) := by decide +kernel
theorem dX3_valueOf_229 : decode cX3_valueOf 229 = .ok (.invokestatic 32, 3) := by decide +kernel
theorem dX3_valueOf_232 : decode cX3_valueOf 232 = .ok (.lreturn, 1) := by decide +kernel
theorem dX3_valueOf_233 : decode cX3_valueOf 233 = .ok (.lload_n 1, 1) := by decide +kernel
theorem dX3_valueOf_234 : decode cX3_valueOf 234 = .ok (.lload_n 3, 1) := by decide +kernel
theorem dX3_valueOf_235 : decode cX3_valueOf 235 = .ok (.lcmp, 1) := by decide +kernel
theorem dX3_valueOf_236 : decode cX3_valueOf 236 = .ok (.ifCond .lt 7, 3) := by decide +kernel
theorem dX3_valueOf_239 : decode cX3_valueOf 239 = .ok (.iconst 1, 1) := by decide +kernel
theorem dX3_valueOf_240 : decode cX3_valueOf 240 = .ok (.goto 4, 3) := by decide +kernel
theorem dX3_valueOf_243 : decode cX3_valueOf 243 = .ok (.iconst 0, 1) := by decide +kernel
theorem dX3_valueOf_244 : decode cX3_valueOf 244 = .ok (.invokestatic 32, 3) := by decide +kernel
theorem dX3_valueOf_247 : decode cX3_valueOf 247 = .ok (.lreturn, 1) := by decide +kernel
theorem dX3_valueOf_248 : decode cX3_valueOf 248 = .ok (.lload_n 1, 1) := by decide +kernel
theorem dX3_valueOf_249 : decode cX3_valueOf 249 = .ok (.lload_n 3, 1) := by decide +kernel
theorem dX3_valueOf_250 : decode cX3_valueOf 250 = .ok (.ladd, 1) := by decide +kernel
theorem dX3_valueOf_251 : decode cX3_valueOf 251 = .ok (.invokestatic 42, 3) := by decide +kernel
theorem dX3_valueOf_254 : decode cX3_valueOf 254 = .ok (.lreturn, 1) := by decide +kernel
theorem dX3_valueOf_255 : decode cX3_valueOf 255 = .ok (.lload_n 1, 1) := by decide +kernel
theorem dX3_valueOf_256 : decode cX3_valueOf 256 = .ok (.lload_n 3, 1) := by decide +kernel
theorem dX3_valueOf_257 : decode cX3_valueOf 257 = .ok (.lsub, 1) := by decide +kernel
theorem dX3_valueOf_258 : decode cX3_valueOf 258 = .ok (.invokestatic 42, 3) := by decide +kernel
theorem dX3_valueOf_261 : decode cX3_valueOf 261 = .ok (.lreturn, 1) := by decide +kernel
theorem dX3_valueOf_262 : decode cX3_valueOf 262 = .ok (.lload_n 1, 1) := by decide +kernel
theorem dX3_valueOf_263 : decode cX3_valueOf 263 = .ok (.lload_n 3, 1) := by decide +kernel
theorem dX3_valueOf_264 : decode cX3_valueOf 264 = .ok (.invokestatic 46, 3) := by decide +kernel
theorem dX3_valueOf_267 : decode cX3_valueOf 267 = .ok (.lreturn, 1) := by decide +kernel
theorem dX3_valueOf_268 : decode cX3_valueOf 268 = .ok (.lload_n 3, 1) := by decide +kernel
theorem dX3_valueOf_269 : decode cX3_valueOf 269 = .ok (.lconst 0, 1) := by decide +kernel
theorem dX3_valueOf_270 : decode cX3_valueOf 270 = .ok (.lcmp, 1) := by decide +kernel
theorem dX3_valueOf_271 : decode cX3_valueOf 271 = .ok (.ifCond .ne 9, 3) := by decide +kernel
theorem dX3_valueOf_274 : decode cX3_valueOf 274 = .ok (.ldc2_w 40, 3) := by decide +kernel
theorem dX3_valueOf_277 : decode cX3_valueOf 277 = .ok (.goto 6, 3) := by decide +kernel
theorem dX3_valueOf_280 : decode cX3_valueOf 280 = .ok (.lload_n 1, 1) := by decide +kernel
theorem dX3_valueOf_281 : decode cX3_valueOf 281 = .ok (.lload_n 3, 1) := by decide +kernel
theorem dX3_valueOf_282 : decode cX3_valueOf 282 = .ok (.ldiv, 1) := by decide +kernel
theorem dX3_valueOf_283 : decode cX3_valueOf 283 = .ok (.lreturn, 1) := by decide +kernel
theorem dX3_valueOf_284 : decode cX3_valueOf 284 = .ok (.ldc2_w 40, 3) := by decide +kernel
theorem dX3_valueOf_287 : decode cX3_valueOf 287 = .ok (.lreturn, 1) := by decide +kernel
theorem dX3_truth_0 : decode cX3_truth 0 = .ok (.iload_n 0, 1) := by decide +kernel
theorem dX3_truth_1 : decode cX3_truth 1 = .ok (.ifCond .eq 7, 3) := by decide +kernel
theorem dX3_truth_4 : decode cX3_truth 4 = .ok (.lconst 1, 1) := by decide +kernel
theorem dX3_truth_5 : decode cX3_truth 5 = .ok (.goto 4, 3) := by decide +kernel
theorem dX3_truth_8 : decode cX3_truth 8 = .ok (.lconst 0, 1) := by decide +kernel
theorem dX3_truth_9 : decode cX3_truth 9 = .ok (.lreturn, 1) := by decide +kernel
theorem dX3_inBounds_0 : decode cX3_inBounds 0 = .ok (.lload_n 0, 1) := by decide +kernel
theorem dX3_inBounds_1 : decode cX3_inBounds 1 = .ok (.ldc2_w 50, 3) := by decide +kernel
theorem dX3_inBounds_4 : decode cX3_inBounds 4 = .ok (.lcmp, 1) := by decide +kernel
theorem dX3_inBounds_5 : decode cX3_inBounds 5 = .ok (.ifCond .gt 11, 3) := by decide +kernel
theorem dX3_inBounds_8 : decode cX3_inBounds 8 = .ok (.lload_n 0, 1) := by decide +kernel
theorem dX3_inBounds_9 : decode cX3_inBounds 9 = .ok (.ldc2_w 52, 3) := by decide +kernel
theorem dX3_inBounds_12 : decode cX3_inBounds 12 = .ok (.lcmp, 1) := by decide +kernel
theorem dX3_inBounds_13 : decode cX3_inBounds 13 = .ok (.ifCond .ge 9, 3) := by decide +kernel
theorem dX3_inBounds_16 : decode cX3_inBounds 16 = .ok (.ldc2_w 40, 3) := by decide +kernel
theorem dX3_inBounds_19 : decode cX3_inBounds 19 = .ok (.goto 4, 3) := by decide +kernel
theorem dX3_inBounds_22 : decode cX3_inBounds 22 = .ok (.lload_n 0, 1) := by decide +kernel
theorem dX3_inBounds_23 : decode cX3_inBounds 23 = .ok (.lreturn, 1) := by decide +kernel
theorem dX3_product_0 : decode cX3_product 0 = .ok (.lload_n 0, 1) := by decide +kernel
theorem dX3_product_1 : decode cX3_product 1 = .ok (.lconst 0, 1) := by decide +kernel
theorem dX3_product_2 : decode cX3_product 2 = .ok (.lcmp, 1) := by decide +kernel
theorem dX3_product_3 : decode cX3_product 3 = .ok (.ifCond .ne 5, 3) := by decide +kernel
theorem dX3_product_6 : decode cX3_product 6 = .ok (.lconst 0, 1) := by decide +kernel
theorem dX3_product_7 : decode cX3_product 7 = .ok (.lreturn, 1) := by decide +kernel
theorem dX3_product_8 : decode cX3_product 8 = .ok (.ldc2_w 50, 3) := by decide +kernel
theorem dX3_product_11 : decode cX3_product 11 = .ok (.lload_n 0, 1) := by decide +kernel
theorem dX3_product_12 : decode cX3_product 12 = .ok (.lconst 0, 1) := by decide +kernel
theorem dX3_product_13 : decode cX3_product 13 = .ok (.lcmp, 1) := by decide +kernel
theorem dX3_product_14 : decode cX3_product 14 = .ok (.ifCond .ge 8, 3) := by decide +kernel
theorem dX3_product_17 : decode cX3_product 17 = .ok (.lload_n 0, 1) := by decide +kernel
theorem dX3_product_18 : decode cX3_product 18 = .ok (.lneg, 1) := by decide +kernel
theorem dX3_product_19 : decode cX3_product 19 = .ok (.goto 4, 3) := by decide +kernel
theorem dX3_product_22 : decode cX3_product 22 = .ok (.lload_n 0, 1) := by decide +kernel
theorem dX3_product_23 : decode cX3_product 23 = .ok (.ldiv, 1) := by decide +kernel
theorem dX3_product_24 : decode cX3_product 24 = .ok (.lstore 4, 2) := by decide +kernel
theorem dX3_product_26 : decode cX3_product 26 = .ok (.lload_n 2, 1) := by decide +kernel
theorem dX3_product_27 : decode cX3_product 27 = .ok (.lload 4, 2) := by decide +kernel
theorem dX3_product_29 : decode cX3_product 29 = .ok (.lcmp, 1) := by decide +kernel
theorem dX3_product_30 : decode cX3_product 30 = .ok (.ifCond .gt 11, 3) := by decide +kernel
theorem dX3_product_33 : decode cX3_product 33 = .ok (.lload_n 2, 1) := by decide +kernel
theorem dX3_product_34 : decode cX3_product 34 = .ok (.lload 4, 2) := by decide +kernel
theorem dX3_product_36 : decode cX3_product 36 = .ok (.lneg, 1) := by decide +kernel
theorem dX3_product_37 : decode cX3_product 37 = .ok (.lcmp, 1) := by decide +kernel
theorem dX3_product_38 : decode cX3_product 38 = .ok (.ifCond .ge 9, 3) := by decide +kernel
theorem dX3_product_41 : decode cX3_product 41 = .ok (.ldc2_w 40, 3) := by decide +kernel
theorem dX3_product_44 : decode cX3_product 44 = .ok (.goto 6, 3) := by decide +kernel
theorem dX3_product_47 : decode cX3_product 47 = .ok (.lload_n 0, 1) := by decide +kernel
theorem dX3_product_48 : decode cX3_product 48 = .ok (.lload_n 2, 1) := by decide +kernel
theorem dX3_product_49 : decode cX3_product 49 = .ok (.lmul, 1) := by decide +kernel
theorem dX3_product_50 : decode cX3_product 50 = .ok (.lreturn, 1) := by decide +kernel
theorem dX4_init_0 : decode cX4_init 0 = .ok (.aload_n 0, 1) := by decide +kernel
theorem dX4_init_1 : decode cX4_init 1 = .ok (.invokespecial 3, 3) := by decide +kernel
theorem dX4_init_4 : decode cX4_init 4 = .ok (.aload_n 0, 1) := by decide +kernel
theorem dX4_init_5 : decode cX4_init 5 = .ok (.iconst 3, 1) := by decide +kernel
theorem dX4_init_6 : decode cX4_init 6 = .ok (.newarray .int, 2) := by decide +kernel
theorem dX4_init_8 : decode cX4_init 8 = .ok (.putfield 9, 3) := by decide +kernel
theorem dX4_init_11 : decode cX4_init 11 = .ok (.aload_n 0, 1) := by decide +kernel
theorem dX4_init_12 : decode cX4_init 12 = .ok (.iconst 3, 1) := by decide +kernel
theorem dX4_init_13 : decode cX4_init 13 = .ok (.newarray .int, 2) := by decide +kernel
theorem dX4_init_15 : decode cX4_init 15 = .ok (.putfield 15, 3) := by decide +kernel
theorem dX4_init_18 : decode cX4_init 18 = .ok (.aload_n 0, 1) := by decide +kernel
theorem dX4_init_19 : decode cX4_init 19 = .ok (.iconst 3, 1) := by decide +kernel
theorem dX4_init_20 : decode cX4_init 20 = .ok (.newarray .int, 2) := by decide +kernel
theorem dX4_init_22 : decode cX4_init 22 = .ok (.putfield 18, 3) := by decide +kernel
theorem dX4_init_25 : decode cX4_init 25 = .ok (.aload_n 0, 1) := by decide +kernel
theorem dX4_init_26 : decode cX4_init 26 = .ok (.bipush 8, 2) := by decide +kernel
theorem dX4_init_28 : decode cX4_init 28 = .ok (.newarray .int, 2) := by decide +kernel
theorem dX4_init_30 : decode cX4_init 30 = .ok (.putfield 21, 3) := by decide +kernel
theorem dX4_init_33 : decode cX4_init 33 = .ok (.aload_n 0, 1) := by decide +kernel
theorem dX4_init_34 : decode cX4_init 34 = .ok (.bipush 8, 2) := by decide +kernel
theorem dX4_init_36 : decode cX4_init 36 = .ok (.newarray .int, 2) := by decide +kernel
theorem dX4_init_38 : decode cX4_init 38 = .ok (.putfield 24, 3) := by decide +kernel
theorem dX4_init_41 : decode cX4_init 41 = .ok (.return_, 1) := by decide +kernel
theorem dX4_clear_0 : decode cX4_clear 0 = .ok (.aload_n 0, 1) := by decide +kernel
theorem dX4_clear_1 : decode cX4_clear 1 = .ok (.iconst 0, 1) := by decide +kernel
theorem dX4_clear_2 : decode cX4_clear 2 = .ok (.putfield 27, 3) := by decide +kernel
theorem dX4_clear_5 : decode cX4_clear 5 = .ok (.aload_n 0, 1) := by decide +kernel
theorem dX4_clear_6 : decode cX4_clear 6 = .ok (.iconst 0, 1) := by decide +kernel
theorem dX4_clear_7 : decode cX4_clear 7 = .ok (.putfield 31, 3) := by decide +kernel
theorem dX4_clear_10 : decode cX4_clear 10 = .ok (.return_, 1) := by decide +kernel
theorem dX4_add_0 : decode cX4_add 0 = .ok (.aload_n 0, 1) := by decide +kernel
theorem dX4_add_1 : decode cX4_add 1 = .ok (.getfield 27, 3) := by decide +kernel
theorem dX4_add_4 : decode cX4_add 4 = .ok (.iconst 3, 1) := by decide +kernel
theorem dX4_add_5 : decode cX4_add 5 = .ok (.if_icmp .ge 43, 3) := by decide +kernel
theorem dX4_add_8 : decode cX4_add 8 = .ok (.aload_n 0, 1) := by decide +kernel
theorem dX4_add_9 : decode cX4_add 9 = .ok (.getfield 9, 3) := by decide +kernel
theorem dX4_add_12 : decode cX4_add 12 = .ok (.aload_n 0, 1) := by decide +kernel
theorem dX4_add_13 : decode cX4_add 13 = .ok (.getfield 27, 3) := by decide +kernel
theorem dX4_add_16 : decode cX4_add 16 = .ok (.iload_n 1, 1) := by decide +kernel
theorem dX4_add_17 : decode cX4_add 17 = .ok (.iastore, 1) := by decide +kernel
theorem dX4_add_18 : decode cX4_add 18 = .ok (.aload_n 0, 1) := by decide +kernel
theorem dX4_add_19 : decode cX4_add 19 = .ok (.getfield 15, 3) := by decide +kernel
theorem dX4_add_22 : decode cX4_add 22 = .ok (.aload_n 0, 1) := by decide +kernel
theorem dX4_add_23 : decode cX4_add 23 = .ok (.getfield 27, 3) := by decide +kernel
theorem dX4_add_26 : decode cX4_add 26 = .ok (.iload_n 2, 1) := by decide +kernel
theorem dX4_add_27 : decode cX4_add 27 = .ok (.iastore, 1) := by decide +kernel
theorem dX4_add_28 : decode cX4_add 28 = .ok (.aload_n 0, 1) := by decide +kernel
theorem dX4_add_29 : decode cX4_add 29 = .ok (.getfield 18, 3) := by decide +kernel
theorem dX4_add_32 : decode cX4_add 32 = .ok (.aload_n 0, 1) := by decide +kernel
theorem dX4_add_33 : decode cX4_add 33 = .ok (.getfield 27, 3) := by decide +kernel
theorem dX4_add_36 : decode cX4_add 36 = .ok (.iload_n 3, 1) := by decide +kernel
theorem dX4_add_37 : decode cX4_add 37 = .ok (.iastore, 1) := by decide +kernel
theorem dX4_add_38 : decode cX4_add 38 = .ok (.aload_n 0, 1) := by decide +kernel
theorem dX4_add_39 : decode cX4_add 39 = .ok (.dup, 1) := by decide +kernel
theorem dX4_add_40 : decode cX4_add 40 = .ok (.getfield 27, 3) := by decide +kernel
theorem dX4_add_43 : decode cX4_add 43 = .ok (.iconst 1, 1) := by decide +kernel
theorem dX4_add_44 : decode cX4_add 44 = .ok (.iadd, 1) := by decide +kernel
theorem dX4_add_45 : decode cX4_add 45 = .ok (.putfield 27, 3) := by decide +kernel
theorem dX4_add_48 : decode cX4_add 48 = .ok (.return_, 1) := by decide +kernel
theorem dX4_addBoat_0 : decode cX4_addBoat 0 = .ok (.aload_n 0, 1) := by decide +kernel
theorem dX4_addBoat_1 : decode cX4_addBoat 1 = .ok (.getfield 31, 3) := by decide +kernel
theorem dX4_addBoat_4 : decode cX4_addBoat 4 = .ok (.bipush 8, 2) := by decide +kernel
theorem dX4_addBoat_6 : decode cX4_addBoat 6 = .ok (.if_icmp .ge 33, 3) := by decide +kernel
theorem dX4_addBoat_9 : decode cX4_addBoat 9 = .ok (.aload_n 0, 1) := by decide +kernel
theorem dX4_addBoat_10 : decode cX4_addBoat 10 = .ok (.getfield 21, 3) := by decide +kernel
theorem dX4_addBoat_13 : decode cX4_addBoat 13 = .ok (.aload_n 0, 1) := by decide +kernel
theorem dX4_addBoat_14 : decode cX4_addBoat 14 = .ok (.getfield 31, 3) := by decide +kernel
theorem dX4_addBoat_17 : decode cX4_addBoat 17 = .ok (.iload_n 1, 1) := by decide +kernel
theorem dX4_addBoat_18 : decode cX4_addBoat 18 = .ok (.iastore, 1) := by decide +kernel
theorem dX4_addBoat_19 : decode cX4_addBoat 19 = .ok (.aload_n 0, 1) := by decide +kernel
theorem dX4_addBoat_20 : decode cX4_addBoat 20 = .ok (.getfield 24, 3) := by decide +kernel
theorem dX4_addBoat_23 : decode cX4_addBoat 23 = .ok (.aload_n 0, 1) := by decide +kernel
theorem dX4_addBoat_24 : decode cX4_addBoat 24 = .ok (.getfield 31, 3) := by decide +kernel
theorem dX4_addBoat_27 : decode cX4_addBoat 27 = .ok (.iload_n 2, 1) := by decide +kernel
theorem dX4_addBoat_28 : decode cX4_addBoat 28 = .ok (.iastore, 1) := by decide +kernel
theorem dX4_addBoat_29 : decode cX4_addBoat 29 = .ok (.aload_n 0, 1) := by decide +kernel
theorem dX4_addBoat_30 : decode cX4_addBoat 30 = .ok (.dup, 1) := by decide +kernel
theorem dX4_addBoat_31 : decode cX4_addBoat 31 = .ok (.getfield 31, 3) := by decide +kernel
theorem dX4_addBoat_34 : decode cX4_addBoat 34 = .ok (.iconst 1, 1) := by decide +kernel
theorem dX4_addBoat_35 : decode cX4_addBoat 35 = .ok (.iadd, 1) := by decide +kernel
theorem dX4_addBoat_36 : decode cX4_addBoat 36 = .ok (.putfield 31, 3) := by decide +kernel
theorem dX4_addBoat_39 : decode cX4_addBoat 39 = .ok (.return_, 1) := by decide +kernel
theorem dX4_ofPond_0 : decode cX4_ofPond 0 = .ok (.iconst 0, 1) := by decide +kernel
theorem dX4_ofPond_1 : decode cX4_ofPond 1 = .ok (.istore_n 2, 1) := by decide +kernel
theorem dX4_ofPond_2 : decode cX4_ofPond 2 = .ok (.iload_n 2, 1) := by decide +kernel
theorem dX4_ofPond_3 : decode cX4_ofPond 3 = .ok (.aload_n 0, 1) := by decide +kernel
theorem dX4_ofPond_4 : decode cX4_ofPond 4 = .ok (.getfield 27, 3) := by decide +kernel
theorem dX4_ofPond_7 : decode cX4_ofPond 7 = .ok (.if_icmp .ge 21, 3) := by decide +kernel
theorem dX4_ofPond_10 : decode cX4_ofPond 10 = .ok (.aload_n 0, 1) := by decide +kernel
theorem dX4_ofPond_11 : decode cX4_ofPond 11 = .ok (.getfield 9, 3) := by decide +kernel
theorem dX4_ofPond_14 : decode cX4_ofPond 14 = .ok (.iload_n 2, 1) := by decide +kernel
theorem dX4_ofPond_15 : decode cX4_ofPond 15 = .ok (.iaload, 1) := by decide +kernel
theorem dX4_ofPond_16 : decode cX4_ofPond 16 = .ok (.iload_n 1, 1) := by decide +kernel
theorem dX4_ofPond_17 : decode cX4_ofPond 17 = .ok (.if_icmp .ne 5, 3) := by decide +kernel
theorem dX4_ofPond_20 : decode cX4_ofPond 20 = .ok (.iload_n 2, 1) := by decide +kernel
theorem dX4_ofPond_21 : decode cX4_ofPond 21 = .ok (.ireturn, 1) := by decide +kernel
theorem dX4_ofPond_22 : decode cX4_ofPond 22 = .ok (.iinc 2 1, 3) := by decide +kernel
theorem dX4_ofPond_25 : decode cX4_ofPond 25 = .ok (.goto (-23), 3) := by decide +kernel
theorem dX4_ofPond_28 : decode cX4_ofPond 28 = .ok (.iconst (-1), 1) := by decide +kernel
theorem dX4_ofPond_29 : decode cX4_ofPond 29 = .ok (.ireturn, 1) := by decide +kernel
theorem dX4_pondOfBoat_0 : decode cX4_pondOfBoat 0 = .ok (.aload_n 0, 1) := by decide +kernel
theorem dX4_pondOfBoat_1 : decode cX4_pondOfBoat 1 = .ok (.getfield 9, 3) := by decide +kernel
theorem dX4_pondOfBoat_4 : decode cX4_pondOfBoat 4 = .ok (.aload_n 0, 1) := by decide +kernel
theorem dX4_pondOfBoat_5 : decode cX4_pondOfBoat 5 = .ok (.getfield 21, 3) := by decide +kernel
theorem dX4_pondOfBoat_8 : decode cX4_pondOfBoat 8 = .ok (.iload_n 1, 1) := by decide +kernel
theorem dX4_pondOfBoat_9 : decode cX4_pondOfBoat 9 = .ok (.iaload, 1) := by decide +kernel
theorem dX4_pondOfBoat_10 : decode cX4_pondOfBoat 10 = .ok (.iaload, 1) := by decide +kernel
theorem dX4_pondOfBoat_11 : decode cX4_pondOfBoat 11 = .ok (.ireturn, 1) := by decide +kernel
theorem dX5_init_0 : decode cX5_init 0 = .ok (.aload_n 0, 1) := by decide +kernel
theorem dX5_init_1 : decode cX5_init 1 = .ok (.invokespecial 3, 3) := by decide +kernel
theorem dX5_init_4 : decode cX5_init 4 = .ok (.aload_n 0, 1) := by decide +kernel
theorem dX5_init_5 : decode cX5_init 5 = .ok (.bipush 7, 2) := by decide +kernel
theorem dX5_init_7 : decode cX5_init 7 = .ok (.newarray .long, 2) := by decide +kernel
theorem dX5_init_9 : decode cX5_init 9 = .ok (.putfield 9, 3) := by decide +kernel
theorem dX5_init_12 : decode cX5_init 12 = .ok (.return_, 1) := by decide +kernel
theorem dX5_asItGoes_0 : decode cX5_asItGoes 0 = .ok (.aload_n 0, 1) := by decide +kernel
theorem dX5_asItGoes_1 : decode cX5_asItGoes 1 = .ok (.iconst 0, 1) := by decide +kernel
theorem dX5_asItGoes_2 : decode cX5_asItGoes 2 = .ok (.putfield 15, 3) := by decide +kernel
theorem dX5_asItGoes_5 : decode cX5_asItGoes 5 = .ok (.aload_n 0, 1) := by decide +kernel
theorem dX5_asItGoes_6 : decode cX5_asItGoes 6 = .ok (.iconst 1, 1) := by decide +kernel
theorem dX5_asItGoes_7 : decode cX5_asItGoes 7 = .ok (.putfield 19, 3) := by decide +kernel
theorem dX5_asItGoes_10 : decode cX5_asItGoes 10 = .ok (.aload_n 0, 1) := by decide +kernel
theorem dX5_asItGoes_11 : decode cX5_asItGoes 11 = .ok (.iconst 1, 1) := by decide +kernel
theorem dX5_asItGoes_12 : decode cX5_asItGoes 12 = .ok (.putfield 22, 3) := by decide +kernel
theorem dX5_asItGoes_15 : decode cX5_asItGoes 15 = .ok (.aload_n 0, 1) := by decide +kernel
theorem dX5_asItGoes_16 : decode cX5_asItGoes 16 = .ok (.iconst 1, 1) := by decide +kernel
theorem dX5_asItGoes_17 : decode cX5_asItGoes 17 = .ok (.putfield 25, 3) := by decide +kernel
theorem dX5_asItGoes_20 : decode cX5_asItGoes 20 = .ok (.aload_n 0, 1) := by decide +kernel
theorem dX5_asItGoes_21 : decode cX5_asItGoes 21 = .ok (.iconst 0, 1) := by decide +kernel
theorem dX5_asItGoes_22 : decode cX5_asItGoes 22 = .ok (.putfield 28, 3) := by decide +kernel
theorem dX5_asItGoes_25 : decode cX5_asItGoes 25 = .ok (.aload_n 0, 1) := by decide +kernel
theorem dX5_asItGoes_26 : decode cX5_asItGoes 26 = .ok (.iconst (-1), 1) := by decide +kernel
theorem dX5_asItGoes_27 : decode cX5_asItGoes 27 = .ok (.putfield 31, 3) := by decide +kernel
theorem dX5_asItGoes_30 : decode cX5_asItGoes 30 = .ok (.aload_n 0, 1) := by decide +kernel
theorem dX5_asItGoes_31 : decode cX5_asItGoes 31 = .ok (.iconst (-1), 1) := by decide +kernel
theorem dX5_asItGoes_32 : decode cX5_asItGoes 32 = .ok (.putfield 35, 3) := by decide +kernel
theorem dX5_asItGoes_35 : decode cX5_asItGoes 35 = .ok (.aload_n 0, 1) := by decide +kernel
theorem dX5_asItGoes_36 : decode cX5_asItGoes 36 = .ok (.iconst 0, 1) := by decide +kernel
theorem dX5_asItGoes_37 : decode cX5_asItGoes 37 = .ok (.putfield 38, 3) := by decide +kernel
theorem dX5_asItGoes_40 : decode cX5_asItGoes 40 = .ok (.return_, 1) := by decide +kernel
theorem dX5_advance_0 : decode cX5_advance 0 = .ok (.iconst 0, 1) := by decide +kernel
theorem dX5_advance_1 : decode cX5_advance 1 = .ok (.istore_n 3, 1) := by decide +kernel
theorem dX5_advance_2 : decode cX5_advance 2 = .ok (.iload_n 3, 1) := by decide +kernel
theorem dX5_advance_3 : decode cX5_advance 3 = .ok (.iload_n 2, 1) := by decide +kernel
theorem dX5_advance_4 : decode cX5_advance 4 = .ok (.if_icmp .ge 14, 3) := by decide +kernel
theorem dX5_advance_7 : decode cX5_advance 7 = .ok (.aload_n 0, 1) := by decide +kernel
theorem dX5_advance_8 : decode cX5_advance 8 = .ok (.aload_n 1, 1) := by decide +kernel
theorem dX5_advance_9 : decode cX5_advance 9 = .ok (.invokevirtual 41, 3) := by decide +kernel
theorem dX5_advance_12 : decode cX5_advance 12 = .ok (.iinc 3 1, 3) := by decide +kernel
theorem dX5_advance_15 : decode cX5_advance 15 = .ok (.goto (-13), 3) := by decide +kernel
theorem dX5_advance_18 : decode cX5_advance 18 = .ok (.return_, 1) := by decide +kernel
theorem dX5_oneMinute_0 : decode cX5_oneMinute 0 = .ok (.aload_n 0, 1) := by decide +kernel
theorem dX5_oneMinute_1 : decode cX5_oneMinute 1 = .ok (.getfield 25, 3) := by decide +kernel
theorem dX5_oneMinute_4 : decode cX5_oneMinute 4 = .ok (.ifCond .eq 8, 3) := by decide +kernel
theorem dX5_oneMinute_7 : decode cX5_oneMinute 7 = .ok (.aload_n 0, 1) := by decide +kernel
theorem dX5_oneMinute_8 : decode cX5_oneMinute 8 = .ok (.aload_n 1, 1) := by decide +kernel
theorem dX5_oneMinute_9 : decode cX5_oneMinute 9 = .ok (.invokevirtual 45, 3) := by decide +kernel
theorem dX5_oneMinute_12 : decode cX5_oneMinute 12 = .ok (.aload_n 0, 1) := by decide +kernel
theorem dX5_oneMinute_13 : decode cX5_oneMinute 13 = .ok (.aload_n 1, 1) := by decide +kernel
theorem dX5_oneMinute_14 : decode cX5_oneMinute 14 = .ok (.invokevirtual 48, 3) := by decide +kernel
theorem dX5_oneMinute_17 : decode cX5_oneMinute 17 = .ok (.aload_n 0, 1) := by decide +kernel
theorem dX5_oneMinute_18 : decode cX5_oneMinute 18 = .ok (.getfield 22, 3) := by decide +kernel
theorem dX5_oneMinute_21 : decode cX5_oneMinute 21 = .ok (.ifCond .eq 8, 3) := by decide +kernel
theorem dX5_oneMinute_24 : decode cX5_oneMinute 24 = .ok (.aload_n 0, 1) := by decide +kernel
theorem dX5_oneMinute_25 : decode cX5_oneMinute 25 = .ok (.aload_n 1, 1) := by decide +kernel
theorem dX5_oneMinute_26 : decode cX5_oneMinute 26 = .ok (.invokevirtual 51, 3) := by decide +kernel
theorem dX5_oneMinute_29 : decode cX5_oneMinute 29 = .ok (.aload_n 0, 1) := by decide +kernel
theorem dX5_oneMinute_30 : decode cX5_oneMinute 30 = .ok (.aload_n 1, 1) := by decide +kernel
theorem dX5_oneMinute_31 : decode cX5_oneMinute 31 = .ok (.invokevirtual 54, 3) := by decide +kernel
theorem dX5_oneMinute_34 : decode cX5_oneMinute 34 = .ok (.aload_n 1, 1) := by decide +kernel
theorem dX5_oneMinute_35 : decode cX5_oneMinute 35 = .ok (.dup, 1) := by decide +kernel
theorem dX5_oneMinute_36 : decode cX5_oneMinute 36 = .ok (.getfield 57, 3) := by decide +kernel
theorem dX5_oneMinute_39 : decode cX5_oneMinute 39 = .ok (.iconst 1, 1) := by decide +kernel
theorem dX5_oneMinute_40 : decode cX5_oneMinute 40 = .ok (.iadd, 1) := by decide +kernel
theorem dX5_oneMinute_41 : decode cX5_oneMinute 41 = .ok (.putfield 57, 3) := by decide +kernel
theorem dX5_oneMinute_44 : decode cX5_oneMinute 44 = .ok (.return_, 1) := by decide +kernel
theorem dX5_letSprings_0 : decode cX5_letSprings 0 = .ok (.iconst 0, 1) := by decide +kernel
theorem dX5_letSprings_1 : decode cX5_letSprings 1 = .ok (.istore_n 2, 1) := by decide +kernel
theorem dX5_letSprings_2 : decode cX5_letSprings 2 = .ok (.iload_n 2, 1) := by decide +kernel
theorem dX5_letSprings_3 : decode cX5_letSprings 3 = .ok (.aload_n 1, 1) := by decide +kernel
theorem dX5_letSprings_4 : decode cX5_letSprings 4 = .ok (.getfield 62, 3) := by decide +kernel
theorem dX5_letSprings_7 : decode cX5_letSprings 7 = .ok (.getfield 66, 3) := by decide +kernel
theorem dX5_letSprings_10 : decode cX5_letSprings 10 = .ok (.if_icmp .ge 23, 3) := by decide +kernel
theorem dX5_letSprings_13 : decode cX5_letSprings 13 = .ok (.aload_n 1, 1) := by decide +kernel
theorem dX5_letSprings_14 : decode cX5_letSprings 14 = .ok (.iload_n 2, 1) := by decide +kernel
theorem dX5_letSprings_15 : decode cX5_letSprings 15 = .ok (.aload_n 1, 1) := by decide +kernel
theorem dX5_letSprings_16 : decode cX5_letSprings 16 = .ok (.getfield 62, 3) := by decide +kernel
theorem dX5_letSprings_19 : decode cX5_letSprings 19 = .ok (.getfield 71, 3) := by decide +kernel
theorem dX5_letSprings_22 : decode cX5_letSprings 22 = .ok (.iload_n 2, 1) := by decide +kernel
theorem dX5_letSprings_23 : decode cX5_letSprings 23 = .ok (.iaload, 1) := by decide +kernel
theorem dX5_letSprings_24 : decode cX5_letSprings 24 = .ok (.invokevirtual 75, 3) := by decide +kernel
theorem dX5_letSprings_27 : decode cX5_letSprings 27 = .ok (.iinc 2 1, 3) := by decide +kernel
theorem dX5_letSprings_30 : decode cX5_letSprings 30 = .ok (.goto (-28), 3) := by decide +kernel
theorem dX5_letSprings_33 : decode cX5_letSprings 33 = .ok (.return_, 1) := by decide +kernel
theorem dX5_letPipes_0 : decode cX5_letPipes 0 = .ok (.iconst 0, 1) := by decide +kernel
theorem dX5_letPipes_1 : decode cX5_letPipes 1 = .ok (.istore_n 2, 1) := by decide +kernel
theorem dX5_letPipes_2 : decode cX5_letPipes 2 = .ok (.iload_n 2, 1) := by decide +kernel
theorem dX5_letPipes_3 : decode cX5_letPipes 3 = .ok (.aload_n 1, 1) := by decide +kernel
theorem dX5_letPipes_4 : decode cX5_letPipes 4 = .ok (.getfield 62, 3) := by decide +kernel
theorem dX5_letPipes_7 : decode cX5_letPipes 7 = .ok (.getfield 79, 3) := by decide +kernel
theorem dX5_letPipes_10 : decode cX5_letPipes 10 = .ok (.if_icmp .ge 76, 3) := by decide +kernel
theorem dX5_letPipes_13 : decode cX5_letPipes 13 = .ok (.aload_n 0, 1) := by decide +kernel
theorem dX5_letPipes_14 : decode cX5_letPipes 14 = .ok (.aload_n 1, 1) := by decide +kernel
theorem dX5_letPipes_15 : decode cX5_letPipes 15 = .ok (.invokevirtual 82, 3) := by decide +kernel
theorem dX5_letPipes_18 : decode cX5_letPipes 18 = .ok (.iload_n 2, 1) := by decide +kernel
theorem dX5_letPipes_19 : decode cX5_letPipes 19 = .ok (.ishr, 1) := by decide +kernel
theorem dX5_letPipes_20 : decode cX5_letPipes 20 = .ok (.iconst 1, 1) := by decide +kernel
theorem dX5_letPipes_21 : decode cX5_letPipes 21 = .ok (.iand, 1) := by decide +kernel
theorem dX5_letPipes_22 : decode cX5_letPipes 22 = .ok (.iconst 1, 1) := by decide +kernel
theorem dX5_letPipes_23 : decode cX5_letPipes 23 = .ok (.if_icmp .ne 57, 3) := by decide +kernel
theorem dX5_letPipes_26 : decode cX5_letPipes 26 = .ok (.aload_n 1, 1) := by decide +kernel
theorem dX5_letPipes_27 : decode cX5_letPipes 27 = .ok (.getfield 62, 3) := by decide +kernel
theorem dX5_letPipes_30 : decode cX5_letPipes 30 = .ok (.getfield 86, 3) := by decide +kernel
theorem dX5_letPipes_33 : decode cX5_letPipes 33 = .ok (.iload_n 2, 1) := by decide +kernel
theorem dX5_letPipes_34 : decode cX5_letPipes 34 = .ok (.iaload, 1) := by decide +kernel
theorem dX5_letPipes_35 : decode cX5_letPipes 35 = .ok (.istore_n 3, 1) := by decide +kernel
theorem dX5_letPipes_36 : decode cX5_letPipes 36 = .ok (.aload_n 1, 1) := by decide +kernel
theorem dX5_letPipes_37 : decode cX5_letPipes 37 = .ok (.iload_n 2, 1) := by decide +kernel
theorem dX5_letPipes_38 : decode cX5_letPipes 38 = .ok (.aload_n 0, 1) := by decide +kernel
theorem dX5_letPipes_39 : decode cX5_letPipes 39 = .ok (.aload_n 1, 1) := by decide +kernel
theorem dX5_letPipes_40 : decode cX5_letPipes 40 = .ok (.iconst 0, 1) := by decide +kernel
theorem dX5_letPipes_41 : decode cX5_letPipes 41 = .ok (.aload_n 1, 1) := by decide +kernel
theorem dX5_letPipes_42 : decode cX5_letPipes 42 = .ok (.iload_n 2, 1) := by decide +kernel
theorem dX5_letPipes_43 : decode cX5_letPipes 43 = .ok (.invokevirtual 89, 3) := by decide +kernel
theorem dX5_letPipes_46 : decode cX5_letPipes 46 = .ok (.iload_n 3, 1) := by decide +kernel
theorem dX5_letPipes_47 : decode cX5_letPipes 47 = .ok (.invokevirtual 93, 3) := by decide +kernel
theorem dX5_letPipes_50 : decode cX5_letPipes 50 = .ok (.bipush 99, 2) := by decide +kernel
theorem dX5_letPipes_52 : decode cX5_letPipes 52 = .ok (.iload_n 3, 1) := by decide +kernel
theorem dX5_letPipes_53 : decode cX5_letPipes 53 = .ok (.invokestatic 97, 3) := by decide +kernel
theorem dX5_letPipes_56 : decode cX5_letPipes 56 = .ok (.invokevirtual 101, 3) := by decide +kernel
theorem dX5_letPipes_59 : decode cX5_letPipes 59 = .ok (.pop, 1) := by decide +kernel
theorem dX5_letPipes_60 : decode cX5_letPipes 60 = .ok (.aload_n 0, 1) := by decide +kernel
theorem dX5_letPipes_61 : decode cX5_letPipes 61 = .ok (.aload_n 1, 1) := by decide +kernel
theorem dX5_letPipes_62 : decode cX5_letPipes 62 = .ok (.invokevirtual 105, 3) := by decide +kernel
theorem dX5_letPipes_65 : decode cX5_letPipes 65 = .ok (.ifCond .eq 15, 3) := by decide +kernel
theorem dX5_letPipes_68 : decode cX5_letPipes 68 = .ok (.aload_n 1, 1) := by decide +kernel
theorem dX5_letPipes_69 : decode cX5_letPipes 69 = .ok (.dup, 1) := by decide +kernel
theorem dX5_letPipes_70 : decode cX5_letPipes 70 = .ok (.getfield 109, 3) := by decide +kernel
theorem dX5_letPipes_73 : decode cX5_letPipes 73 = .ok (.iconst 1, 1) := by decide +kernel
theorem dX5_letPipes_74 : decode cX5_letPipes 74 = .ok (.iload_n 2, 1) := by decide +kernel
theorem dX5_letPipes_75 : decode cX5_letPipes 75 = .ok (.ishl, 1) := by decide +kernel
theorem dX5_letPipes_76 : decode cX5_letPipes 76 = .ok (.ior, 1) := by decide +kernel
theorem dX5_letPipes_77 : decode cX5_letPipes 77 = .ok (.putfield 109, 3) := by decide +kernel
theorem dX5_letPipes_80 : decode cX5_letPipes 80 = .ok (.iinc 2 1, 3) := by decide +kernel
theorem dX5_letPipes_83 : decode cX5_letPipes 83 = .ok (.goto (-81), 3) := by decide +kernel
theorem dX5_letPipes_86 : decode cX5_letPipes 86 = .ok (.return_, 1) := by decide +kernel
theorem dX5_jamsNow_0 : decode cX5_jamsNow 0 = .ok (.aload_n 1, 1) := by decide +kernel
theorem dX5_jamsNow_1 : decode cX5_jamsNow 1 = .ok (.getfield 62, 3) := by decide +kernel
theorem dX5_jamsNow_4 : decode cX5_jamsNow 4 = .ok (.getfield 112, 3) := by decide +kernel
theorem dX5_jamsNow_7 : decode cX5_jamsNow 7 = .ok (.istore_n 2, 1) := by decide +kernel
theorem dX5_jamsNow_8 : decode cX5_jamsNow 8 = .ok (.aload_n 0, 1) := by decide +kernel
theorem dX5_jamsNow_9 : decode cX5_jamsNow 9 = .ok (.getfield 19, 3) := by decide +kernel
theorem dX5_jamsNow_12 : decode cX5_jamsNow 12 = .ok (.ifCond .ne 5, 3) := by decide +kernel
theorem dX5_jamsNow_15 : decode cX5_jamsNow 15 = .ok (.iconst 0, 1) := by decide +kernel
theorem dX5_jamsNow_16 : decode cX5_jamsNow 16 = .ok (.ireturn, 1) := by decide +kernel
theorem dX5_jamsNow_17 : decode cX5_jamsNow 17 = .ok (.aload_n 0, 1) := by decide +kernel
theorem dX5_jamsNow_18 : decode cX5_jamsNow 18 = .ok (.getfield 15, 3) := by decide +kernel
theorem dX5_jamsNow_21 : decode cX5_jamsNow 21 = .ok (.ifCond .ne 15, 3) := by decide +kernel
theorem dX5_jamsNow_24 : decode cX5_jamsNow 24 = .ok (.iload_n 2, 1) := by decide +kernel
theorem dX5_jamsNow_25 : decode cX5_jamsNow 25 = .ok (.bipush 50, 2) := by decide +kernel
theorem dX5_jamsNow_27 : decode cX5_jamsNow 27 = .ok (.if_icmp .lt 7, 3) := by decide +kernel
theorem dX5_jamsNow_30 : decode cX5_jamsNow 30 = .ok (.iconst 1, 1) := by decide +kernel
theorem dX5_jamsNow_31 : decode cX5_jamsNow 31 = .ok (.goto 4, 3) := by decide +kernel
theorem dX5_jamsNow_34 : decode cX5_jamsNow 34 = .ok (.iconst 0, 1) := by decide +kernel
theorem dX5_jamsNow_35 : decode cX5_jamsNow 35 = .ok (.ireturn, 1) := by decide +kernel
theorem dX5_jamsNow_36 : decode cX5_jamsNow 36 = .ok (.iload_n 2, 1) := by decide +kernel
theorem dX5_jamsNow_37 : decode cX5_jamsNow 37 = .ok (.ifCond .eq 9, 3) := by decide +kernel
theorem dX5_jamsNow_40 : decode cX5_jamsNow 40 = .ok (.iload_n 2, 1) := by decide +kernel
theorem dX5_jamsNow_41 : decode cX5_jamsNow 41 = .ok (.bipush 100, 2) := by decide +kernel
theorem dX5_jamsNow_43 : decode cX5_jamsNow 43 = .ok (.if_icmp .ne 15, 3) := by decide +kernel
theorem dX5_jamsNow_46 : decode cX5_jamsNow 46 = .ok (.iload_n 2, 1) := by decide +kernel
theorem dX5_jamsNow_47 : decode cX5_jamsNow 47 = .ok (.bipush 100, 2) := by decide +kernel
theorem dX5_jamsNow_49 : decode cX5_jamsNow 49 = .ok (.if_icmp .ne 7, 3) := by decide +kernel
theorem dX5_jamsNow_52 : decode cX5_jamsNow 52 = .ok (.iconst 1, 1) := by decide +kernel
theorem dX5_jamsNow_53 : decode cX5_jamsNow 53 = .ok (.goto 4, 3) := by decide +kernel
theorem dX5_jamsNow_56 : decode cX5_jamsNow 56 = .ok (.iconst 0, 1) := by decide +kernel
theorem dX5_jamsNow_57 : decode cX5_jamsNow 57 = .ok (.ireturn, 1) := by decide +kernel
theorem dX5_jamsNow_58 : decode cX5_jamsNow 58 = .ok (.aload_n 1, 1) := by decide +kernel
theorem dX5_jamsNow_59 : decode cX5_jamsNow 59 = .ok (.invokevirtual 115, 3) := by decide +kernel
theorem dX5_jamsNow_62 : decode cX5_jamsNow 62 = .ok (.bipush 100, 2) := by decide +kernel
theorem dX5_jamsNow_64 : decode cX5_jamsNow 64 = .ok (.irem, 1) := by decide +kernel
theorem dX5_jamsNow_65 : decode cX5_jamsNow 65 = .ok (.iload_n 2, 1) := by decide +kernel
theorem dX5_jamsNow_66 : decode cX5_jamsNow 66 = .ok (.if_icmp .ge 7, 3) := by decide +kernel
theorem dX5_jamsNow_69 : decode cX5_jamsNow 69 = .ok (.iconst 1, 1) := by decide +kernel
theorem dX5_jamsNow_70 : decode cX5_jamsNow 70 = .ok (.goto 4, 3) := by decide +kernel
theorem dX5_jamsNow_73 : decode cX5_jamsNow 73 = .ok (.iconst 0, 1) := by decide +kernel
theorem dX5_jamsNow_74 : decode cX5_jamsNow 74 = .ok (.ireturn, 1) := by decide +kernel
theorem dX5_letLeaks_0 : decode cX5_letLeaks 0 = .ok (.iconst 0, 1) := by decide +kernel
theorem dX5_letLeaks_1 : decode cX5_letLeaks 1 = .ok (.istore_n 2, 1) := by decide +kernel
theorem dX5_letLeaks_2 : decode cX5_letLeaks 2 = .ok (.iload_n 2, 1) := by decide +kernel
theorem dX5_letLeaks_3 : decode cX5_letLeaks 3 = .ok (.aload_n 1, 1) := by decide +kernel
theorem dX5_letLeaks_4 : decode cX5_letLeaks 4 = .ok (.getfield 62, 3) := by decide +kernel
theorem dX5_letLeaks_7 : decode cX5_letLeaks 7 = .ok (.getfield 66, 3) := by decide +kernel
theorem dX5_letLeaks_10 : decode cX5_letLeaks 10 = .ok (.if_icmp .ge 45, 3) := by decide +kernel
theorem dX5_letLeaks_13 : decode cX5_letLeaks 13 = .ok (.iload_n 2, 1) := by decide +kernel
theorem dX5_letLeaks_14 : decode cX5_letLeaks 14 = .ok (.aload_n 0, 1) := by decide +kernel
theorem dX5_letLeaks_15 : decode cX5_letLeaks 15 = .ok (.getfield 35, 3) := by decide +kernel
theorem dX5_letLeaks_18 : decode cX5_letLeaks 18 = .ok (.if_icmp .ne 10, 3) := by decide +kernel
theorem dX5_letLeaks_21 : decode cX5_letLeaks 21 = .ok (.aload_n 0, 1) := by decide +kernel
theorem dX5_letLeaks_22 : decode cX5_letLeaks 22 = .ok (.getfield 38, 3) := by decide +kernel
theorem dX5_letLeaks_25 : decode cX5_letLeaks 25 = .ok (.goto 17, 3) := by decide +kernel
theorem dX5_letLeaks_28 : decode cX5_letLeaks 28 = .ok (.aload_n 0, 1) := by decide +kernel
theorem dX5_letLeaks_29 : decode cX5_letLeaks 29 = .ok (.aload_n 1, 1) := by decide +kernel
theorem dX5_letLeaks_30 : decode cX5_letLeaks 30 = .ok (.iconst 1, 1) := by decide +kernel
theorem dX5_letLeaks_31 : decode cX5_letLeaks 31 = .ok (.iload_n 2, 1) := by decide +kernel
theorem dX5_letLeaks_32 : decode cX5_letLeaks 32 = .ok (.iconst 0, 1) := by decide +kernel
theorem dX5_letLeaks_33 : decode cX5_letLeaks 33 = .ok (.invokevirtual 93, 3) := by decide +kernel
theorem dX5_letLeaks_36 : decode cX5_letLeaks 36 = .ok (.bipush 99, 2) := by decide +kernel
theorem dX5_letLeaks_38 : decode cX5_letLeaks 38 = .ok (.iconst 0, 1) := by decide +kernel
theorem dX5_letLeaks_39 : decode cX5_letLeaks 39 = .ok (.invokestatic 97, 3) := by decide +kernel
theorem dX5_letLeaks_42 : decode cX5_letLeaks 42 = .ok (.istore_n 3, 1) := by decide +kernel
theorem dX5_letLeaks_43 : decode cX5_letLeaks 43 = .ok (.aload_n 1, 1) := by decide +kernel
theorem dX5_letLeaks_44 : decode cX5_letLeaks 44 = .ok (.iload_n 2, 1) := by decide +kernel
theorem dX5_letLeaks_45 : decode cX5_letLeaks 45 = .ok (.iload_n 3, 1) := by decide +kernel
theorem dX5_letLeaks_46 : decode cX5_letLeaks 46 = .ok (.invokevirtual 119, 3) := by decide +kernel
theorem dX5_letLeaks_49 : decode cX5_letLeaks 49 = .ok (.iinc 2 1, 3) := by decide +kernel
theorem dX5_letLeaks_52 : decode cX5_letLeaks 52 = .ok (.goto (-50), 3) := by decide +kernel
theorem dX5_letLeaks_55 : decode cX5_letLeaks 55 = .ok (.return_, 1) := by decide +kernel
theorem dX5_letBoats_0 : decode cX5_letBoats 0 = .ok (.aload_n 1, 1) := by decide +kernel
theorem dX5_letBoats_1 : decode cX5_letBoats 1 = .ok (.getfield 62, 3) := by decide +kernel
theorem dX5_letBoats_4 : decode cX5_letBoats 4 = .ok (.getfield 122, 3) := by decide +kernel
theorem dX5_letBoats_7 : decode cX5_letBoats 7 = .ok (.astore_n 2, 1) := by decide +kernel
theorem dX5_letBoats_8 : decode cX5_letBoats 8 = .ok (.iconst 0, 1) := by decide +kernel
theorem dX5_letBoats_9 : decode cX5_letBoats 9 = .ok (.istore_n 3, 1) := by decide +kernel
theorem dX5_letBoats_10 : decode cX5_letBoats 10 = .ok (.iload_n 3, 1) := by decide +kernel
theorem dX5_letBoats_11 : decode cX5_letBoats 11 = .ok (.aload_n 2, 1) := by decide +kernel
theorem dX5_letBoats_12 : decode cX5_letBoats 12 = .ok (.getfield 126, 3) := by decide +kernel
theorem dX5_letBoats_15 : decode cX5_letBoats 15 = .ok (.if_icmp .ge 107, 3) := by decide +kernel
theorem dX5_letBoats_18 : decode cX5_letBoats 18 = .ok (.aload_n 1, 1) := by decide +kernel
theorem dX5_letBoats_19 : decode cX5_letBoats 19 = .ok (.getfield 131, 3) := by decide +kernel
theorem dX5_letBoats_22 : decode cX5_letBoats 22 = .ok (.iload_n 3, 1) := by decide +kernel
theorem dX5_letBoats_23 : decode cX5_letBoats 23 = .ok (.iaload, 1) := by decide +kernel
theorem dX5_letBoats_24 : decode cX5_letBoats 24 = .ok (.iconst 2, 1) := by decide +kernel
theorem dX5_letBoats_25 : decode cX5_letBoats 25 = .ok (.if_icmp .eq 91, 3) := by decide +kernel
theorem dX5_letBoats_28 : decode cX5_letBoats 28 = .ok (.aload_n 1, 1) := by decide +kernel
theorem dX5_letBoats_29 : decode cX5_letBoats 29 = .ok (.getfield 57, 3) := by decide +kernel
theorem dX5_letBoats_32 : decode cX5_letBoats 32 = .ok (.aload_n 2, 1) := by decide +kernel
theorem dX5_letBoats_33 : decode cX5_letBoats 33 = .ok (.getfield 134, 3) := by decide +kernel
theorem dX5_letBoats_36 : decode cX5_letBoats 36 = .ok (.iload_n 3, 1) := by decide +kernel
theorem dX5_letBoats_37 : decode cX5_letBoats 37 = .ok (.iaload, 1) := by decide +kernel
theorem dX5_letBoats_38 : decode cX5_letBoats 38 = .ok (.if_icmp .lt 78, 3) := by decide +kernel
theorem dX5_letBoats_41 : decode cX5_letBoats 41 = .ok (.aload_n 2, 1) := by decide +kernel
theorem dX5_letBoats_42 : decode cX5_letBoats 42 = .ok (.getfield 137, 3) := by decide +kernel
theorem dX5_letBoats_45 : decode cX5_letBoats 45 = .ok (.iload_n 3, 1) := by decide +kernel
theorem dX5_letBoats_46 : decode cX5_letBoats 46 = .ok (.iaload, 1) := by decide +kernel
theorem dX5_letBoats_47 : decode cX5_letBoats 47 = .ok (.istore 4, 2) := by decide +kernel
theorem dX5_letBoats_49 : decode cX5_letBoats 49 = .ok (.aload_n 1, 1) := by decide +kernel
theorem dX5_letBoats_50 : decode cX5_letBoats 50 = .ok (.iload_n 3, 1) := by decide +kernel
theorem dX5_letBoats_51 : decode cX5_letBoats 51 = .ok (.iload 4, 2) := by decide +kernel
theorem dX5_letBoats_53 : decode cX5_letBoats 53 = .ok (.invokevirtual 140, 3) := by decide +kernel
theorem dX5_letBoats_56 : decode cX5_letBoats 56 = .ok (.aload_n 1, 1) := by decide +kernel
theorem dX5_letBoats_57 : decode cX5_letBoats 57 = .ok (.iload_n 3, 1) := by decide +kernel
theorem dX5_letBoats_58 : decode cX5_letBoats 58 = .ok (.iload 4, 2) := by decide +kernel
theorem dX5_letBoats_60 : decode cX5_letBoats 60 = .ok (.invokevirtual 143, 3) := by decide +kernel
theorem dX5_letBoats_63 : decode cX5_letBoats 63 = .ok (.ifCond .eq 43, 3) := by decide +kernel
theorem dX5_letBoats_66 : decode cX5_letBoats 66 = .ok (.aload_n 1, 1) := by decide +kernel
theorem dX5_letBoats_67 : decode cX5_letBoats 67 = .ok (.dup, 1) := by decide +kernel
theorem dX5_letBoats_68 : decode cX5_letBoats 68 = .ok (.getfield 147, 3) := by decide +kernel
theorem dX5_letBoats_71 : decode cX5_letBoats 71 = .ok (.aload_n 0, 1) := by decide +kernel
theorem dX5_letBoats_72 : decode cX5_letBoats 72 = .ok (.aload_n 1, 1) := by decide +kernel
theorem dX5_letBoats_73 : decode cX5_letBoats 73 = .ok (.iconst 2, 1) := by decide +kernel
theorem dX5_letBoats_74 : decode cX5_letBoats 74 = .ok (.aload_n 2, 1) := by decide +kernel
theorem dX5_letBoats_75 : decode cX5_letBoats 75 = .ok (.getfield 150, 3) := by decide +kernel
theorem dX5_letBoats_78 : decode cX5_letBoats 78 = .ok (.iload 4, 2) := by decide +kernel
theorem dX5_letBoats_80 : decode cX5_letBoats 80 = .ok (.iaload, 1) := by decide +kernel
theorem dX5_letBoats_81 : decode cX5_letBoats 81 = .ok (.iconst 0, 1) := by decide +kernel
theorem dX5_letBoats_82 : decode cX5_letBoats 82 = .ok (.invokevirtual 93, 3) := by decide +kernel
theorem dX5_letBoats_85 : decode cX5_letBoats 85 = .ok (.sipush 999, 3) := by decide +kernel
theorem dX5_letBoats_88 : decode cX5_letBoats 88 = .ok (.iconst 1, 1) := by decide +kernel
theorem dX5_letBoats_89 : decode cX5_letBoats 89 = .ok (.invokestatic 97, 3) := by decide +kernel
theorem dX5_letBoats_92 : decode cX5_letBoats 92 = .ok (.iadd, 1) := by decide +kernel
theorem dX5_letBoats_93 : decode cX5_letBoats 93 = .ok (.putfield 147, 3) := by decide +kernel
theorem dX5_letBoats_96 : decode cX5_letBoats 96 = .ok (.aload_n 1, 1) := by decide +kernel
theorem dX5_letBoats_97 : decode cX5_letBoats 97 = .ok (.getfield 131, 3) := by decide +kernel
theorem dX5_letBoats_100 : decode cX5_letBoats 100 = .ok (.iload_n 3, 1) := by decide +kernel
theorem dX5_letBoats_101 : decode cX5_letBoats 101 = .ok (.iconst 2, 1) := by decide +kernel
theorem dX5_letBoats_102 : decode cX5_letBoats 102 = .ok (.iastore, 1) := by decide +kernel
theorem dX5_letBoats_103 : decode cX5_letBoats 103 = .ok (.goto 13, 3) := by decide +kernel
theorem dX5_letBoats_106 : decode cX5_letBoats 106 = .ok (.aload_n 1, 1) := by decide +kernel
theorem dX5_letBoats_107 : decode cX5_letBoats 107 = .ok (.getfield 153, 3) := by decide +kernel
theorem dX5_letBoats_110 : decode cX5_letBoats 110 = .ok (.iload_n 3, 1) := by decide +kernel
theorem dX5_letBoats_111 : decode cX5_letBoats 111 = .ok (.dup2, 1) := by decide +kernel
theorem dX5_letBoats_112 : decode cX5_letBoats 112 = .ok (.iaload, 1) := by decide +kernel
theorem dX5_letBoats_113 : decode cX5_letBoats 113 = .ok (.iconst 1, 1) := by decide +kernel
theorem dX5_letBoats_114 : decode cX5_letBoats 114 = .ok (.iadd, 1) := by decide +kernel
theorem dX5_letBoats_115 : decode cX5_letBoats 115 = .ok (.iastore, 1) := by decide +kernel
theorem dX5_letBoats_116 : decode cX5_letBoats 116 = .ok (.iinc 3 1, 3) := by decide +kernel
theorem dX5_letBoats_119 : decode cX5_letBoats 119 = .ok (.goto (-109), 3) := by decide +kernel
theorem dX5_letBoats_122 : decode cX5_letBoats 122 = .ok (.return_, 1) := by decide +kernel
theorem dX5_openNow_0 : decode cX5_openNow 0 = .ok (.aload_n 0, 1) := by decide +kernel
theorem dX5_openNow_1 : decode cX5_openNow 1 = .ok (.getfield 28, 3) := by decide +kernel
theorem dX5_openNow_4 : decode cX5_openNow 4 = .ok (.ifCond .eq 11, 3) := by decide +kernel
theorem dX5_openNow_7 : decode cX5_openNow 7 = .ok (.aload_n 1, 1) := by decide +kernel
theorem dX5_openNow_8 : decode cX5_openNow 8 = .ok (.getfield 62, 3) := by decide +kernel
theorem dX5_openNow_11 : decode cX5_openNow 11 = .ok (.invokevirtual 156, 3) := by decide +kernel
theorem dX5_openNow_14 : decode cX5_openNow 14 = .ok (.ireturn, 1) := by decide +kernel
theorem dX5_openNow_15 : decode cX5_openNow 15 = .ok (.aload_n 1, 1) := by decide +kernel
theorem dX5_openNow_16 : decode cX5_openNow 16 = .ok (.getfield 62, 3) := by decide +kernel
theorem dX5_openNow_19 : decode cX5_openNow 19 = .ok (.aload_n 1, 1) := by decide +kernel
theorem dX5_openNow_20 : decode cX5_openNow 20 = .ok (.getfield 57, 3) := by decide +kernel
theorem dX5_openNow_23 : decode cX5_openNow 23 = .ok (.invokevirtual 159, 3) := by decide +kernel
theorem dX5_openNow_26 : decode cX5_openNow 26 = .ok (.aload_n 1, 1) := by decide +kernel
theorem dX5_openNow_27 : decode cX5_openNow 27 = .ok (.getfield 109, 3) := by decide +kernel
theorem dX5_openNow_30 : decode cX5_openNow 30 = .ok (.iconst (-1), 1) := by decide +kernel
theorem dX5_openNow_31 : decode cX5_openNow 31 = .ok (.ixor, 1) := by decide +kernel
theorem dX5_openNow_32 : decode cX5_openNow 32 = .ok (.iand, 1) := by decide +kernel
theorem dX5_openNow_33 : decode cX5_openNow 33 = .ok (.istore_n 2, 1) := by decide +kernel
theorem dX5_openNow_34 : decode cX5_openNow 34 = .ok (.aload_n 0, 1) := by decide +kernel
theorem dX5_openNow_35 : decode cX5_openNow 35 = .ok (.getfield 31, 3) := by decide +kernel
theorem dX5_openNow_38 : decode cX5_openNow 38 = .ok (.iconst (-1), 1) := by decide +kernel
theorem dX5_openNow_39 : decode cX5_openNow 39 = .ok (.if_icmp .ne 7, 3) := by decide +kernel
theorem dX5_openNow_42 : decode cX5_openNow 42 = .ok (.iload_n 2, 1) := by decide +kernel
theorem dX5_openNow_43 : decode cX5_openNow 43 = .ok (.goto 13, 3) := by decide +kernel
theorem dX5_openNow_46 : decode cX5_openNow 46 = .ok (.iload_n 2, 1) := by decide +kernel
theorem dX5_openNow_47 : decode cX5_openNow 47 = .ok (.iconst 1, 1) := by decide +kernel
theorem dX5_openNow_48 : decode cX5_openNow 48 = .ok (.aload_n 0, 1) := by decide +kernel
theorem dX5_openNow_49 : decode cX5_openNow 49 = .ok (.getfield 31, 3) := by decide +kernel
theorem dX5_openNow_52 : decode cX5_openNow 52 = .ok (.ishl, 1) := by decide +kernel
theorem dX5_openNow_53 : decode cX5_openNow 53 = .ok (.iconst (-1), 1) := by decide +kernel
theorem dX5_openNow_54 : decode cX5_openNow 54 = .ok (.ixor, 1) := by decide +kernel
theorem dX5_openNow_55 : decode cX5_openNow 55 = .ok (.iand, 1) := by decide +kernel
theorem dX5_openNow_56 : decode cX5_openNow 56 = .ok (.ireturn, 1) := by decide +kernel
theorem dX5_put_0 : decode cX5_put 0 = .ok (.lload_n 0, 1) := by decide +kernel
theorem dX5_put_1 : decode cX5_put 1 = .ok (.ldc2_w 162, 3) := by decide +kernel
theorem dX5_put_4 : decode cX5_put 4 = .ok (.lcmp, 1) := by decide +kernel
theorem dX5_put_5 : decode cX5_put 5 = .ok (.ifCond .ne 5, 3) := by decide +kernel
theorem dX5_put_8 : decode cX5_put 8 = .ok (.iload_n 3, 1) := by decide +kernel
theorem dX5_put_9 : decode cX5_put 9 = .ok (.ireturn, 1) := by decide +kernel
theorem dX5_put_10 : decode cX5_put 10 = .ok (.lconst 0, 1) := by decide +kernel
theorem dX5_put_11 : decode cX5_put 11 = .ok (.iload_n 2, 1) := by decide +kernel
theorem dX5_put_12 : decode cX5_put 12 = .ok (.i2l, 1) := by decide +kernel
theorem dX5_put_13 : decode cX5_put 13 = .ok (.lload_n 0, 1) := by decide +kernel
theorem dX5_put_14 : decode cX5_put 14 = .ok (.invokestatic 164, 3) := by decide +kernel
theorem dX5_put_17 : decode cX5_put 17 = .ok (.invokestatic 170, 3) := by decide +kernel
theorem dX5_put_20 : decode cX5_put 20 = .ok (.l2i, 1) := by decide +kernel
theorem dX5_put_21 : decode cX5_put 21 = .ok (.ireturn, 1) := by decide +kernel
theorem dX5_worth_0 : decode cX5_worth 0 = .ok (.aload_n 1, 1) := by decide +kernel
theorem dX5_worth_1 : decode cX5_worth 1 = .ok (.getfield 62, 3) := by decide +kernel
theorem dX5_worth_4 : decode cX5_worth 4 = .ok (.getfield 173, 3) := by decide +kernel
theorem dX5_worth_7 : decode cX5_worth 7 = .ok (.iload_n 2, 1) := by decide +kernel
theorem dX5_worth_8 : decode cX5_worth 8 = .ok (.invokevirtual 177, 3) := by decide +kernel
theorem dX5_worth_11 : decode cX5_worth 11 = .ok (.ifCond .ne 7, 3) := by decide +kernel
theorem dX5_worth_14 : decode cX5_worth 14 = .ok (.ldc2_w 162, 3) := by decide +kernel
theorem dX5_worth_17 : decode cX5_worth 17 = .ok (.lreturn, 1) := by decide +kernel
theorem dX5_worth_18 : decode cX5_worth 18 = .ok (.aload_n 0, 1) := by decide +kernel
theorem dX5_worth_19 : decode cX5_worth 19 = .ok (.getfield 9, 3) := by decide +kernel
theorem dX5_worth_22 : decode cX5_worth 22 = .ok (.iconst 0, 1) := by decide +kernel
theorem dX5_worth_23 : decode cX5_worth 23 = .ok (.aload_n 1, 1) := by decide +kernel
theorem dX5_worth_24 : decode cX5_worth 24 = .ok (.getfield 62, 3) := by decide +kernel
theorem dX5_worth_27 : decode cX5_worth 27 = .ok (.getfield 183, 3) := by decide +kernel
theorem dX5_worth_30 : decode cX5_worth 30 = .ok (.iload_n 3, 1) := by decide +kernel
theorem dX5_worth_31 : decode cX5_worth 31 = .ok (.iaload, 1) := by decide +kernel
theorem dX5_worth_32 : decode cX5_worth 32 = .ok (.i2l, 1) := by decide +kernel
theorem dX5_worth_33 : decode cX5_worth 33 = .ok (.lastore, 1) := by decide +kernel
theorem dX5_worth_34 : decode cX5_worth 34 = .ok (.aload_n 0, 1) := by decide +kernel
theorem dX5_worth_35 : decode cX5_worth 35 = .ok (.getfield 9, 3) := by decide +kernel
theorem dX5_worth_38 : decode cX5_worth 38 = .ok (.iconst 1, 1) := by decide +kernel
theorem dX5_worth_39 : decode cX5_worth 39 = .ok (.aload_n 1, 1) := by decide +kernel
theorem dX5_worth_40 : decode cX5_worth 40 = .ok (.getfield 62, 3) := by decide +kernel
theorem dX5_worth_43 : decode cX5_worth 43 = .ok (.getfield 186, 3) := by decide +kernel
theorem dX5_worth_46 : decode cX5_worth 46 = .ok (.iload_n 3, 1) := by decide +kernel
theorem dX5_worth_47 : decode cX5_worth 47 = .ok (.iaload, 1) := by decide +kernel
theorem dX5_worth_48 : decode cX5_worth 48 = .ok (.i2l, 1) := by decide +kernel
theorem dX5_worth_49 : decode cX5_worth 49 = .ok (.lastore, 1) := by decide +kernel
theorem dX5_worth_50 : decode cX5_worth 50 = .ok (.aload_n 0, 1) := by decide +kernel
theorem dX5_worth_51 : decode cX5_worth 51 = .ok (.getfield 9, 3) := by decide +kernel
theorem dX5_worth_54 : decode cX5_worth 54 = .ok (.iconst 2, 1) := by decide +kernel
theorem dX5_worth_55 : decode cX5_worth 55 = .ok (.aload_n 1, 1) := by decide +kernel
theorem dX5_worth_56 : decode cX5_worth 56 = .ok (.getfield 189, 3) := by decide +kernel
theorem dX5_worth_59 : decode cX5_worth 59 = .ok (.iload_n 3, 1) := by decide +kernel
theorem dX5_worth_60 : decode cX5_worth 60 = .ok (.iaload, 1) := by decide +kernel
theorem dX5_worth_61 : decode cX5_worth 61 = .ok (.i2l, 1) := by decide +kernel
theorem dX5_worth_62 : decode cX5_worth 62 = .ok (.lastore, 1) := by decide +kernel
theorem dX5_worth_63 : decode cX5_worth 63 = .ok (.aload_n 0, 1) := by decide +kernel
theorem dX5_worth_64 : decode cX5_worth 64 = .ok (.getfield 9, 3) := by decide +kernel
theorem dX5_worth_67 : decode cX5_worth 67 = .ok (.iconst 3, 1) := by decide +kernel
theorem dX5_worth_68 : decode cX5_worth 68 = .ok (.iload 4, 2) := by decide +kernel
theorem dX5_worth_70 : decode cX5_worth 70 = .ok (.i2l, 1) := by decide +kernel
theorem dX5_worth_71 : decode cX5_worth 71 = .ok (.lastore, 1) := by decide +kernel
theorem dX5_worth_72 : decode cX5_worth 72 = .ok (.aload_n 0, 1) := by decide +kernel
theorem dX5_worth_73 : decode cX5_worth 73 = .ok (.getfield 9, 3) := by decide +kernel
theorem dX5_worth_76 : decode cX5_worth 76 = .ok (.iconst 4, 1) := by decide +kernel
theorem dX5_worth_77 : decode cX5_worth 77 = .ok (.aload_n 0, 1) := by decide +kernel
theorem dX5_worth_78 : decode cX5_worth 78 = .ok (.aload_n 1, 1) := by decide +kernel
theorem dX5_worth_79 : decode cX5_worth 79 = .ok (.invokevirtual 82, 3) := by decide +kernel
theorem dX5_worth_82 : decode cX5_worth 82 = .ok (.invokestatic 192, 3) := by decide +kernel
theorem dX5_worth_85 : decode cX5_worth 85 = .ok (.i2l, 1) := by decide +kernel
theorem dX5_worth_86 : decode cX5_worth 86 = .ok (.lastore, 1) := by decide +kernel
theorem dX5_worth_87 : decode cX5_worth 87 = .ok (.aload_n 0, 1) := by decide +kernel
theorem dX5_worth_88 : decode cX5_worth 88 = .ok (.getfield 9, 3) := by decide +kernel
theorem dX5_worth_91 : decode cX5_worth 91 = .ok (.iconst 5, 1) := by decide +kernel
theorem dX5_worth_92 : decode cX5_worth 92 = .ok (.aload_n 1, 1) := by decide +kernel
theorem dX5_worth_93 : decode cX5_worth 93 = .ok (.iconst 1, 1) := by decide +kernel
theorem dX5_worth_94 : decode cX5_worth 94 = .ok (.invokevirtual 197, 3) := by decide +kernel
theorem dX5_worth_97 : decode cX5_worth 97 = .ok (.i2l, 1) := by decide +kernel
theorem dX5_worth_98 : decode cX5_worth 98 = .ok (.lastore, 1) := by decide +kernel
theorem dX5_worth_99 : decode cX5_worth 99 = .ok (.aload_n 0, 1) := by decide +kernel
theorem dX5_worth_100 : decode cX5_worth 100 = .ok (.getfield 9, 3) := by decide +kernel
theorem dX5_worth_103 : decode cX5_worth 103 = .ok (.bipush 6, 2) := by decide +kernel
theorem dX5_worth_105 : decode cX5_worth 105 = .ok (.aload_n 1, 1) := by decide +kernel
theorem dX5_worth_106 : decode cX5_worth 106 = .ok (.getfield 57, 3) := by decide +kernel
theorem dX5_worth_109 : decode cX5_worth 109 = .ok (.i2l, 1) := by decide +kernel
theorem dX5_worth_110 : decode cX5_worth 110 = .ok (.lastore, 1) := by decide +kernel
theorem dX5_worth_111 : decode cX5_worth 111 = .ok (.aload_n 1, 1) := by decide +kernel
theorem dX5_worth_112 : decode cX5_worth 112 = .ok (.getfield 62, 3) := by decide +kernel
theorem dX5_worth_115 : decode cX5_worth 115 = .ok (.getfield 173, 3) := by decide +kernel
theorem dX5_worth_118 : decode cX5_worth 118 = .ok (.iload_n 2, 1) := by decide +kernel
theorem dX5_worth_119 : decode cX5_worth 119 = .ok (.aload_n 0, 1) := by decide +kernel
theorem dX5_worth_120 : decode cX5_worth 120 = .ok (.getfield 9, 3) := by decide +kernel
theorem dX5_worth_123 : decode cX5_worth 123 = .ok (.invokevirtual 200, 3) := by decide +kernel
theorem dX5_worth_126 : decode cX5_worth 126 = .ok (.lreturn, 1) := by decide +kernel
theorem dX6_init_0 : decode cX6_init 0 = .ok (.aload_n 0, 1) := by decide +kernel
theorem dX6_init_1 : decode cX6_init 1 = .ok (.invokespecial 3, 3) := by decide +kernel
theorem dX6_init_4 : decode cX6_init 4 = .ok (.return_, 1) := by decide +kernel
theorem dX6_seek_0 : decode cX6_seek 0 = .ok (.aload_n 0, 1) := by decide +kernel
theorem dX6_seek_1 : decode cX6_seek 1 = .ok (.iload_n 2, 1) := by decide +kernel
theorem dX6_seek_2 : decode cX6_seek 2 = .ok (.putfield 9, 3) := by decide +kernel
theorem dX6_seek_5 : decode cX6_seek 5 = .ok (.aload_n 0, 1) := by decide +kernel
theorem dX6_seek_6 : decode cX6_seek 6 = .ok (.iload_n 3, 1) := by decide +kernel
theorem dX6_seek_7 : decode cX6_seek 7 = .ok (.putfield 15, 3) := by decide +kernel
theorem dX6_seek_10 : decode cX6_seek 10 = .ok (.aload_n 0, 1) := by decide +kernel
theorem dX6_seek_11 : decode cX6_seek 11 = .ok (.iload 4, 2) := by decide +kernel
theorem dX6_seek_13 : decode cX6_seek 13 = .ok (.putfield 18, 3) := by decide +kernel
theorem dX6_seek_16 : decode cX6_seek 16 = .ok (.aload_n 0, 1) := by decide +kernel
theorem dX6_seek_17 : decode cX6_seek 17 = .ok (.aload_n 1, 1) := by decide +kernel
theorem dX6_seek_18 : decode cX6_seek 18 = .ok (.getfield 21, 3) := by decide +kernel
theorem dX6_seek_21 : decode cX6_seek 21 = .ok (.iload 4, 2) := by decide +kernel
theorem dX6_seek_23 : decode cX6_seek 23 = .ok (.iaload, 1) := by decide +kernel
theorem dX6_seek_24 : decode cX6_seek 24 = .ok (.putfield 27, 3) := by decide +kernel
theorem dX6_seek_27 : decode cX6_seek 27 = .ok (.aload_n 0, 1) := by decide +kernel
theorem dX6_seek_28 : decode cX6_seek 28 = .ok (.bipush (-2), 2) := by decide +kernel
theorem dX6_seek_30 : decode cX6_seek 30 = .ok (.putfield 30, 3) := by decide +kernel
theorem dX6_seek_33 : decode cX6_seek 33 = .ok (.aload_n 0, 1) := by decide +kernel
theorem dX6_seek_34 : decode cX6_seek 34 = .ok (.bipush (-2), 2) := by decide +kernel
theorem dX6_seek_36 : decode cX6_seek 36 = .ok (.putfield 33, 3) := by decide +kernel
theorem dX6_seek_39 : decode cX6_seek 39 = .ok (.aload_n 0, 1) := by decide +kernel
theorem dX6_seek_40 : decode cX6_seek 40 = .ok (.bipush (-2), 2) := by decide +kernel
theorem dX6_seek_42 : decode cX6_seek 42 = .ok (.putfield 36, 3) := by decide +kernel
theorem dX6_seek_45 : decode cX6_seek 45 = .ok (.aload_n 0, 1) := by decide +kernel
theorem dX6_seek_46 : decode cX6_seek 46 = .ok (.aload_n 1, 1) := by decide +kernel
theorem dX6_seek_47 : decode cX6_seek 47 = .ok (.iconst 0, 1) := by decide +kernel
theorem dX6_seek_48 : decode cX6_seek 48 = .ok (.bipush (-2), 2) := by decide +kernel
theorem dX6_seek_50 : decode cX6_seek 50 = .ok (.invokevirtual 39, 3) := by decide +kernel
theorem dX6_seek_53 : decode cX6_seek 53 = .ok (.return_, 1) := by decide +kernel
theorem dX6_open_0 : decode cX6_open 0 = .ok (.aload_n 1, 1) := by decide +kernel
theorem dX6_open_1 : decode cX6_open 1 = .ok (.aload_n 0, 1) := by decide +kernel
theorem dX6_open_2 : decode cX6_open 2 = .ok (.getfield 9, 3) := by decide +kernel
theorem dX6_open_5 : decode cX6_open 5 = .ok (.aload_n 0, 1) := by decide +kernel
theorem dX6_open_6 : decode cX6_open 6 = .ok (.getfield 15, 3) := by decide +kernel
theorem dX6_open_9 : decode cX6_open 9 = .ok (.invokevirtual 43, 3) := by decide +kernel
theorem dX6_open_12 : decode cX6_open 12 = .ok (.ifCond .eq 18, 3) := by decide +kernel
theorem dX6_open_15 : decode cX6_open 15 = .ok (.aload_n 0, 1) := by decide +kernel
theorem dX6_open_16 : decode cX6_open 16 = .ok (.aload_n 1, 1) := by decide +kernel
theorem dX6_open_17 : decode cX6_open 17 = .ok (.getfield 21, 3) := by decide +kernel
theorem dX6_open_20 : decode cX6_open 20 = .ok (.aload_n 0, 1) := by decide +kernel
theorem dX6_open_21 : decode cX6_open 21 = .ok (.getfield 18, 3) := by decide +kernel
theorem dX6_open_24 : decode cX6_open 24 = .ok (.iaload, 1) := by decide +kernel
theorem dX6_open_25 : decode cX6_open 25 = .ok (.iload_n 2, 1) := by decide +kernel
theorem dX6_open_26 : decode cX6_open 26 = .ok (.iload_n 3, 1) := by decide +kernel
theorem dX6_open_27 : decode cX6_open 27 = .ok (.invokevirtual 47, 3) := by decide +kernel
theorem dX6_open_30 : decode cX6_open 30 = .ok (.iload_n 2, 1) := by decide +kernel
theorem dX6_open_31 : decode cX6_open 31 = .ok (.iconst 4, 1) := by decide +kernel
theorem dX6_open_32 : decode cX6_open 32 = .ok (.if_icmp .lt 4, 3) := by decide +kernel
theorem dX6_open_35 : decode cX6_open 35 = .ok (.return_, 1) := by decide +kernel
theorem dX6_open_36 : decode cX6_open 36 = .ok (.iconst 0, 1) := by decide +kernel
theorem dX6_open_37 : decode cX6_open 37 = .ok (.istore 4, 2) := by decide +kernel
theorem dX6_open_39 : decode cX6_open 39 = .ok (.iload 4, 2) := by decide +kernel
theorem dX6_open_41 : decode cX6_open 41 = .ok (.aload_n 1, 1) := by decide +kernel
theorem dX6_open_42 : decode cX6_open 42 = .ok (.getfield 51, 3) := by decide +kernel
theorem dX6_open_45 : decode cX6_open 45 = .ok (.getfield 55, 3) := by decide +kernel
theorem dX6_open_48 : decode cX6_open 48 = .ok (.if_icmp .ge 107, 3) := by decide +kernel
theorem dX6_open_51 : decode cX6_open 51 = .ok (.aload_n 1, 1) := by decide +kernel
theorem dX6_open_52 : decode cX6_open 52 = .ok (.iload 4, 2) := by decide +kernel
theorem dX6_open_54 : decode cX6_open 54 = .ok (.invokevirtual 60, 3) := by decide +kernel
theorem dX6_open_57 : decode cX6_open 57 = .ok (.istore 5, 2) := by decide +kernel
theorem dX6_open_59 : decode cX6_open 59 = .ok (.aload_n 1, 1) := by decide +kernel
theorem dX6_open_60 : decode cX6_open 60 = .ok (.getfield 51, 3) := by decide +kernel
theorem dX6_open_63 : decode cX6_open 63 = .ok (.getfield 64, 3) := by decide +kernel
theorem dX6_open_66 : decode cX6_open 66 = .ok (.iload 4, 2) := by decide +kernel
theorem dX6_open_68 : decode cX6_open 68 = .ok (.iaload, 1) := by decide +kernel
theorem dX6_open_69 : decode cX6_open 69 = .ok (.aload_n 1, 1) := by decide +kernel
theorem dX6_open_70 : decode cX6_open 70 = .ok (.getfield 51, 3) := by decide +kernel
theorem dX6_open_73 : decode cX6_open 73 = .ok (.getfield 67, 3) := by decide +kernel
theorem dX6_open_76 : decode cX6_open 76 = .ok (.iload 4, 2) := by decide +kernel
theorem dX6_open_78 : decode cX6_open 78 = .ok (.iaload, 1) := by decide +kernel
theorem dX6_open_79 : decode cX6_open 79 = .ok (.iadd, 1) := by decide +kernel
theorem dX6_open_80 : decode cX6_open 80 = .ok (.iload 5, 2) := by decide +kernel
theorem dX6_open_82 : decode cX6_open 82 = .ok (.isub, 1) := by decide +kernel
theorem dX6_open_83 : decode cX6_open 83 = .ok (.istore 6, 2) := by decide +kernel
theorem dX6_open_85 : decode cX6_open 85 = .ok (.aload_n 1, 1) := by decide +kernel
theorem dX6_open_86 : decode cX6_open 86 = .ok (.iload 4, 2) := by decide +kernel
theorem dX6_open_88 : decode cX6_open 88 = .ok (.invokevirtual 70, 3) := by decide +kernel
theorem dX6_open_91 : decode cX6_open 91 = .ok (.ifCond .eq 7, 3) := by decide +kernel
theorem dX6_open_94 : decode cX6_open 94 = .ok (.iconst 0, 1) := by decide +kernel
theorem dX6_open_95 : decode cX6_open 95 = .ok (.goto 9, 3) := by decide +kernel
theorem dX6_open_98 : decode cX6_open 98 = .ok (.aload_n 1, 1) := by decide +kernel
theorem dX6_open_99 : decode cX6_open 99 = .ok (.iload 4, 2) := by decide +kernel
theorem dX6_open_101 : decode cX6_open 101 = .ok (.invokevirtual 74, 3) := by decide +kernel
theorem dX6_open_104 : decode cX6_open 104 = .ok (.istore 7, 2) := by decide +kernel
theorem dX6_open_106 : decode cX6_open 106 = .ok (.iload 7, 2) := by decide +kernel
theorem dX6_open_108 : decode cX6_open 108 = .ok (.ifCond .le 41, 3) := by decide +kernel
theorem dX6_open_111 : decode cX6_open 111 = .ok (.aload_n 1, 1) := by decide +kernel
theorem dX6_open_112 : decode cX6_open 112 = .ok (.iload 5, 2) := by decide +kernel
theorem dX6_open_114 : decode cX6_open 114 = .ok (.iload 6, 2) := by decide +kernel
theorem dX6_open_116 : decode cX6_open 116 = .ok (.iload 7, 2) := by decide +kernel
theorem dX6_open_118 : decode cX6_open 118 = .ok (.invokevirtual 77, 3) := by decide +kernel
theorem dX6_open_121 : decode cX6_open 121 = .ok (.aload_n 0, 1) := by decide +kernel
theorem dX6_open_122 : decode cX6_open 122 = .ok (.aload_n 1, 1) := by decide +kernel
theorem dX6_open_123 : decode cX6_open 123 = .ok (.iload_n 2, 1) := by decide +kernel
theorem dX6_open_124 : decode cX6_open 124 = .ok (.iconst 1, 1) := by decide +kernel
theorem dX6_open_125 : decode cX6_open 125 = .ok (.iadd, 1) := by decide +kernel
theorem dX6_open_126 : decode cX6_open 126 = .ok (.iload_n 2, 1) := by decide +kernel
theorem dX6_open_127 : decode cX6_open 127 = .ok (.ifCond .ne 8, 3) := by decide +kernel
theorem dX6_open_130 : decode cX6_open 130 = .ok (.iload 4, 2) := by decide +kernel
theorem dX6_open_132 : decode cX6_open 132 = .ok (.goto 4, 3) := by decide +kernel
theorem dX6_open_135 : decode cX6_open 135 = .ok (.iload_n 3, 1) := by decide +kernel
theorem dX6_open_136 : decode cX6_open 136 = .ok (.invokevirtual 39, 3) := by decide +kernel
theorem dX6_open_139 : decode cX6_open 139 = .ok (.aload_n 1, 1) := by decide +kernel
theorem dX6_open_140 : decode cX6_open 140 = .ok (.iload 6, 2) := by decide +kernel
theorem dX6_open_142 : decode cX6_open 142 = .ok (.iload 5, 2) := by decide +kernel
theorem dX6_open_144 : decode cX6_open 144 = .ok (.iload 7, 2) := by decide +kernel
theorem dX6_open_146 : decode cX6_open 146 = .ok (.invokevirtual 77, 3) := by decide +kernel
theorem dX6_open_149 : decode cX6_open 149 = .ok (.iinc 4 1, 3) := by decide +kernel
theorem dX6_open_152 : decode cX6_open 152 = .ok (.goto (-113), 3) := by decide +kernel
theorem dX6_open_155 : decode cX6_open 155 = .ok (.return_, 1) := by decide +kernel
theorem dX6_note_0 : decode cX6_note 0 = .ok (.aload_n 0, 1) := by decide +kernel
theorem dX6_note_1 : decode cX6_note 1 = .ok (.getfield 30, 3) := by decide +kernel
theorem dX6_note_4 : decode cX6_note 4 = .ok (.bipush (-2), 2) := by decide +kernel
theorem dX6_note_6 : decode cX6_note 6 = .ok (.if_icmp .eq 11, 3) := by decide +kernel
theorem dX6_note_9 : decode cX6_note 9 = .ok (.iload_n 2, 1) := by decide +kernel
theorem dX6_note_10 : decode cX6_note 10 = .ok (.aload_n 0, 1) := by decide +kernel
theorem dX6_note_11 : decode cX6_note 11 = .ok (.getfield 30, 3) := by decide +kernel
theorem dX6_note_14 : decode cX6_note 14 = .ok (.if_icmp .ge 13, 3) := by decide +kernel
theorem dX6_note_17 : decode cX6_note 17 = .ok (.aload_n 0, 1) := by decide +kernel
theorem dX6_note_18 : decode cX6_note 18 = .ok (.iload_n 2, 1) := by decide +kernel
theorem dX6_note_19 : decode cX6_note 19 = .ok (.putfield 30, 3) := by decide +kernel
theorem dX6_note_22 : decode cX6_note 22 = .ok (.aload_n 0, 1) := by decide +kernel
theorem dX6_note_23 : decode cX6_note 23 = .ok (.iload_n 3, 1) := by decide +kernel
theorem dX6_note_24 : decode cX6_note 24 = .ok (.putfield 33, 3) := by decide +kernel
theorem dX6_note_27 : decode cX6_note 27 = .ok (.iconst 0, 1) := by decide +kernel
theorem dX6_note_28 : decode cX6_note 28 = .ok (.aload_n 0, 1) := by decide +kernel
theorem dX6_note_29 : decode cX6_note 29 = .ok (.getfield 27, 3) := by decide +kernel
theorem dX6_note_32 : decode cX6_note 32 = .ok (.iload_n 1, 1) := by decide +kernel
theorem dX6_note_33 : decode cX6_note 33 = .ok (.isub, 1) := by decide +kernel
theorem dX6_note_34 : decode cX6_note 34 = .ok (.invokestatic 80, 3) := by decide +kernel
theorem dX6_note_37 : decode cX6_note 37 = .ok (.istore 4, 2) := by decide +kernel
theorem dX6_note_39 : decode cX6_note 39 = .ok (.aload_n 0, 1) := by decide +kernel
theorem dX6_note_40 : decode cX6_note 40 = .ok (.getfield 36, 3) := by decide +kernel
theorem dX6_note_43 : decode cX6_note 43 = .ok (.bipush (-2), 2) := by decide +kernel
theorem dX6_note_45 : decode cX6_note 45 = .ok (.if_icmp .eq 12, 3) := by decide +kernel
theorem dX6_note_48 : decode cX6_note 48 = .ok (.iload 4, 2) := by decide +kernel
theorem dX6_note_50 : decode cX6_note 50 = .ok (.aload_n 0, 1) := by decide +kernel
theorem dX6_note_51 : decode cX6_note 51 = .ok (.getfield 36, 3) := by decide +kernel
theorem dX6_note_54 : decode cX6_note 54 = .ok (.if_icmp .ge 9, 3) := by decide +kernel
theorem dX6_note_57 : decode cX6_note 57 = .ok (.aload_n 0, 1) := by decide +kernel
theorem dX6_note_58 : decode cX6_note 58 = .ok (.iload 4, 2) := by decide +kernel
theorem dX6_note_60 : decode cX6_note 60 = .ok (.putfield 36, 3) := by decide +kernel
theorem dX6_note_63 : decode cX6_note 63 = .ok (.return_, 1) := by decide +kernel
theorem dX7_init_0 : decode cX7_init 0 = .ok (.aload_n 0, 1) := by decide +kernel
theorem dX7_init_1 : decode cX7_init 1 = .ok (.invokespecial 3, 3) := by decide +kernel
theorem dX7_init_4 : decode cX7_init 4 = .ok (.aload_n 0, 1) := by decide +kernel
theorem dX7_init_5 : decode cX7_init 5 = .ok (.new 9, 3) := by decide +kernel
theorem dX7_init_8 : decode cX7_init 8 = .ok (.dup, 1) := by decide +kernel
theorem dX7_init_9 : decode cX7_init 9 = .ok (.invokespecial 11, 3) := by decide +kernel
theorem dX7_init_12 : decode cX7_init 12 = .ok (.putfield 12, 3) := by decide +kernel
theorem dX7_init_15 : decode cX7_init 15 = .ok (.aload_n 0, 1) := by decide +kernel
theorem dX7_init_16 : decode cX7_init 16 = .ok (.new 18, 3) := by decide +kernel
theorem dX7_init_19 : decode cX7_init 19 = .ok (.dup, 1) := by decide +kernel
theorem dX7_init_20 : decode cX7_init 20 = .ok (.invokespecial 20, 3) := by decide +kernel
theorem dX7_init_23 : decode cX7_init 23 = .ok (.putfield 21, 3) := by decide +kernel
theorem dX7_init_26 : decode cX7_init 26 = .ok (.aload_n 0, 1) := by decide +kernel
theorem dX7_init_27 : decode cX7_init 27 = .ok (.iconst (-1), 1) := by decide +kernel
theorem dX7_init_28 : decode cX7_init 28 = .ok (.putfield 25, 3) := by decide +kernel
theorem dX7_init_31 : decode cX7_init 31 = .ok (.return_, 1) := by decide +kernel
theorem dX7_read_0 : decode cX7_read 0 = .ok (.aload_n 0, 1) := by decide +kernel
theorem dX7_read_1 : decode cX7_read 1 = .ok (.iconst 0, 1) := by decide +kernel
theorem dX7_read_2 : decode cX7_read 2 = .ok (.putfield 29, 3) := by decide +kernel
theorem dX7_read_5 : decode cX7_read 5 = .ok (.aload_n 0, 1) := by decide +kernel
theorem dX7_read_6 : decode cX7_read 6 = .ok (.iconst (-1), 1) := by decide +kernel
theorem dX7_read_7 : decode cX7_read 7 = .ok (.putfield 25, 3) := by decide +kernel
theorem dX7_read_10 : decode cX7_read 10 = .ok (.aload_n 0, 1) := by decide +kernel
theorem dX7_read_11 : decode cX7_read 11 = .ok (.iconst 0, 1) := by decide +kernel
theorem dX7_read_12 : decode cX7_read 12 = .ok (.putfield 32, 3) := by decide +kernel
theorem dX7_read_15 : decode cX7_read 15 = .ok (.aload_n 0, 1) := by decide +kernel
theorem dX7_read_16 : decode cX7_read 16 = .ok (.iconst 0, 1) := by decide +kernel
theorem dX7_read_17 : decode cX7_read 17 = .ok (.putfield 35, 3) := by decide +kernel
theorem dX7_read_20 : decode cX7_read 20 = .ok (.aload_n 0, 1) := by decide +kernel
theorem dX7_read_21 : decode cX7_read 21 = .ok (.iconst 0, 1) := by decide +kernel
theorem dX7_read_22 : decode cX7_read 22 = .ok (.putfield 38, 3) := by decide +kernel
theorem dX7_read_25 : decode cX7_read 25 = .ok (.aload_n 0, 1) := by decide +kernel
theorem dX7_read_26 : decode cX7_read 26 = .ok (.iconst 0, 1) := by decide +kernel
theorem dX7_read_27 : decode cX7_read 27 = .ok (.putfield 42, 3) := by decide +kernel
theorem dX7_read_30 : decode cX7_read 30 = .ok (.aload_n 0, 1) := by decide +kernel
theorem dX7_read_31 : decode cX7_read 31 = .ok (.iconst 0, 1) := by decide +kernel
theorem dX7_read_32 : decode cX7_read 32 = .ok (.putfield 45, 3) := by decide +kernel
theorem dX7_read_35 : decode cX7_read 35 = .ok (.aload_n 0, 1) := by decide +kernel
theorem dX7_read_36 : decode cX7_read 36 = .ok (.getfield 21, 3) := by decide +kernel
theorem dX7_read_39 : decode cX7_read 39 = .ok (.invokevirtual 48, 3) := by decide +kernel
theorem dX7_read_42 : decode cX7_read 42 = .ok (.aload_n 0, 1) := by decide +kernel
theorem dX7_read_43 : decode cX7_read 43 = .ok (.getfield 12, 3) := by decide +kernel
theorem dX7_read_46 : decode cX7_read 46 = .ok (.iload_n 1, 1) := by decide +kernel
theorem dX7_read_47 : decode cX7_read 47 = .ok (.invokevirtual 51, 3) := by decide +kernel
theorem dX7_read_50 : decode cX7_read 50 = .ok (.iconst 0, 1) := by decide +kernel
theorem dX7_read_51 : decode cX7_read 51 = .ok (.istore_n 2, 1) := by decide +kernel
theorem dX7_read_52 : decode cX7_read 52 = .ok (.iload_n 2, 1) := by decide +kernel
theorem dX7_read_53 : decode cX7_read 53 = .ok (.sipush 700, 3) := by decide +kernel
theorem dX7_read_56 : decode cX7_read 56 = .ok (.if_icmp .ge 32, 3) := by decide +kernel
theorem dX7_read_59 : decode cX7_read 59 = .ok (.aload_n 0, 1) := by decide +kernel
theorem dX7_read_60 : decode cX7_read 60 = .ok (.getfield 29, 3) := by decide +kernel
theorem dX7_read_63 : decode cX7_read 63 = .ok (.ifCond .ne 25, 3) := by decide +kernel
theorem dX7_read_66 : decode cX7_read 66 = .ok (.aload_n 0, 1) := by decide +kernel
theorem dX7_read_67 : decode cX7_read 67 = .ok (.getfield 12, 3) := by decide +kernel
theorem dX7_read_70 : decode cX7_read 70 = .ok (.invokevirtual 55, 3) := by decide +kernel
theorem dX7_read_73 : decode cX7_read 73 = .ok (.bipush 37, 2) := by decide +kernel
theorem dX7_read_75 : decode cX7_read 75 = .ok (.if_icmp .eq 13, 3) := by decide +kernel
theorem dX7_read_78 : decode cX7_read 78 = .ok (.aload_n 0, 1) := by decide +kernel
theorem dX7_read_79 : decode cX7_read 79 = .ok (.invokevirtual 59, 3) := by decide +kernel
theorem dX7_read_82 : decode cX7_read 82 = .ok (.iinc 2 1, 3) := by decide +kernel
theorem dX7_read_85 : decode cX7_read 85 = .ok (.goto (-33), 3) := by decide +kernel
theorem dX7_read_88 : decode cX7_read 88 = .ok (.return_, 1) := by decide +kernel
theorem dX7_fail_0 : decode cX7_fail 0 = .ok (.aload_n 0, 1) := by decide +kernel
theorem dX7_fail_1 : decode cX7_fail 1 = .ok (.getfield 29, 3) := by decide +kernel
theorem dX7_fail_4 : decode cX7_fail 4 = .ok (.ifCond .ne 13, 3) := by decide +kernel
theorem dX7_fail_7 : decode cX7_fail 7 = .ok (.aload_n 0, 1) := by decide +kernel
theorem dX7_fail_8 : decode cX7_fail 8 = .ok (.iload_n 1, 1) := by decide +kernel
theorem dX7_fail_9 : decode cX7_fail 9 = .ok (.putfield 29, 3) := by decide +kernel
theorem dX7_fail_12 : decode cX7_fail 12 = .ok (.aload_n 0, 1) := by decide +kernel
theorem dX7_fail_13 : decode cX7_fail 13 = .ok (.iload_n 2, 1) := by decide +kernel
theorem dX7_fail_14 : decode cX7_fail 14 = .ok (.putfield 25, 3) := by decide +kernel
theorem dX7_fail_17 : decode cX7_fail 17 = .ok (.return_, 1) := by decide +kernel
theorem dX7_readLine_0 : decode cX7_readLine 0 = .ok (.aload_n 0, 1) := by decide +kernel
theorem dX7_readLine_1 : decode cX7_readLine 1 = .ok (.getfield 12, 3) := by decide +kernel
theorem dX7_readLine_4 : decode cX7_readLine 4 = .ok (.invokevirtual 55, 3) := by decide +kernel
theorem dX7_readLine_7 : decode cX7_readLine 7 = .ok (.istore_n 1, 1) := by decide +kernel
theorem dX7_readLine_8 : decode cX7_readLine 8 = .ok (.iload_n 1, 1) := by decide +kernel
theorem dX7_readLine_9 : decode cX7_readLine 9 = .ok (.bipush 8, 2) := by decide +kernel
theorem dX7_readLine_11 : decode cX7_readLine 11 = .ok (.if_icmp .le 16, 3) := by decide +kernel
theorem dX7_readLine_14 : decode cX7_readLine 14 = .ok (.aload_n 0, 1) := by decide +kernel
theorem dX7_readLine_15 : decode cX7_readLine 15 = .ok (.iconst 1, 1) := by decide +kernel
theorem dX7_readLine_16 : decode cX7_readLine 16 = .ok (.aload_n 0, 1) := by decide +kernel
theorem dX7_readLine_17 : decode cX7_readLine 17 = .ok (.getfield 12, 3) := by decide +kernel
theorem dX7_readLine_20 : decode cX7_readLine 20 = .ok (.invokevirtual 62, 3) := by decide +kernel
theorem dX7_readLine_23 : decode cX7_readLine 23 = .ok (.invokevirtual 64, 3) := by decide +kernel
theorem dX7_readLine_26 : decode cX7_readLine 26 = .ok (.return_, 1) := by decide +kernel
theorem dX7_readLine_27 : decode cX7_readLine 27 = .ok (.aload_n 0, 1) := by decide +kernel
theorem dX7_readLine_28 : decode cX7_readLine 28 = .ok (.getfield 21, 3) := by decide +kernel
theorem dX7_readLine_31 : decode cX7_readLine 31 = .ok (.iload_n 1, 1) := by decide +kernel
theorem dX7_readLine_32 : decode cX7_readLine 32 = .ok (.invokevirtual 68, 3) := by decide +kernel
theorem dX7_readLine_35 : decode cX7_readLine 35 = .ok (.ifCond .eq 16, 3) := by decide +kernel
theorem dX7_readLine_38 : decode cX7_readLine 38 = .ok (.aload_n 0, 1) := by decide +kernel
theorem dX7_readLine_39 : decode cX7_readLine 39 = .ok (.iconst 2, 1) := by decide +kernel
theorem dX7_readLine_40 : decode cX7_readLine 40 = .ok (.aload_n 0, 1) := by decide +kernel
theorem dX7_readLine_41 : decode cX7_readLine 41 = .ok (.getfield 12, 3) := by decide +kernel
theorem dX7_readLine_44 : decode cX7_readLine 44 = .ok (.invokevirtual 62, 3) := by decide +kernel
theorem dX7_readLine_47 : decode cX7_readLine 47 = .ok (.invokevirtual 64, 3) := by decide +kernel
theorem dX7_readLine_50 : decode cX7_readLine 50 = .ok (.return_, 1) := by decide +kernel
theorem dX7_readLine_51 : decode cX7_readLine 51 = .ok (.iload_n 1, 1) := by decide +kernel
theorem dX7_readLine_52 : decode cX7_readLine 52 = .ok (.bipush 6, 2) := by decide +kernel
theorem dX7_readLine_54 : decode cX7_readLine 54 = .ok (.if_icmp .ne 10, 3) := by decide +kernel
theorem dX7_readLine_57 : decode cX7_readLine 57 = .ok (.aload_n 0, 1) := by decide +kernel
theorem dX7_readLine_58 : decode cX7_readLine 58 = .ok (.getfield 38, 3) := by decide +kernel
theorem dX7_readLine_61 : decode cX7_readLine 61 = .ok (.ifCond .ne 16, 3) := by decide +kernel
theorem dX7_readLine_64 : decode cX7_readLine 64 = .ok (.iload_n 1, 1) := by decide +kernel
theorem dX7_readLine_65 : decode cX7_readLine 65 = .ok (.bipush 7, 2) := by decide +kernel
theorem dX7_readLine_67 : decode cX7_readLine 67 = .ok (.if_icmp .ne 23, 3) := by decide +kernel
theorem dX7_readLine_70 : decode cX7_readLine 70 = .ok (.aload_n 0, 1) := by decide +kernel
theorem dX7_readLine_71 : decode cX7_readLine 71 = .ok (.getfield 42, 3) := by decide +kernel
theorem dX7_readLine_74 : decode cX7_readLine 74 = .ok (.ifCond .eq 16, 3) := by decide +kernel
theorem dX7_readLine_77 : decode cX7_readLine 77 = .ok (.aload_n 0, 1) := by decide +kernel
theorem dX7_readLine_78 : decode cX7_readLine 78 = .ok (.iconst 3, 1) := by decide +kernel
theorem dX7_readLine_79 : decode cX7_readLine 79 = .ok (.aload_n 0, 1) := by decide +kernel
theorem dX7_readLine_80 : decode cX7_readLine 80 = .ok (.getfield 12, 3) := by decide +kernel
theorem dX7_readLine_83 : decode cX7_readLine 83 = .ok (.invokevirtual 62, 3) := by decide +kernel
theorem dX7_readLine_86 : decode cX7_readLine 86 = .ok (.invokevirtual 64, 3) := by decide +kernel
theorem dX7_readLine_89 : decode cX7_readLine 89 = .ok (.return_, 1) := by decide +kernel
theorem dX7_readLine_90 : decode cX7_readLine 90 = .ok (.aload_n 0, 1) := by decide +kernel
theorem dX7_readLine_91 : decode cX7_readLine 91 = .ok (.getfield 12, 3) := by decide +kernel
theorem dX7_readLine_94 : decode cX7_readLine 94 = .ok (.invokevirtual 72, 3) := by decide +kernel
theorem dX7_readLine_97 : decode cX7_readLine 97 = .ok (.iload_n 1, 1) := by decide +kernel
theorem dX7_readLine_98 : decode cX7_readLine 98 = .ok (.tableswitch 102 0 7 #[46, 53, 60, 67, 74, 81, 88, 95], 46) := by decide +kernel
theorem dX7_readLine_144 : decode cX7_readLine 144 = .ok (.aload_n 0, 1) := by decide +kernel
theorem dX7_readLine_145 : decode cX7_readLine 145 = .ok (.invokevirtual 75, 3) := by decide +kernel
theorem dX7_readLine_148 : decode cX7_readLine 148 = .ok (.goto 56, 3) := by decide +kernel
theorem dX7_readLine_151 : decode cX7_readLine 151 = .ok (.aload_n 0, 1) := by decide +kernel
theorem dX7_readLine_152 : decode cX7_readLine 152 = .ok (.invokevirtual 78, 3) := by decide +kernel
theorem dX7_readLine_155 : decode cX7_readLine 155 = .ok (.goto 49, 3) := by decide +kernel
theorem dX7_readLine_158 : decode cX7_readLine 158 = .ok (.aload_n 0, 1) := by decide +kernel
theorem dX7_readLine_159 : decode cX7_readLine 159 = .ok (.invokevirtual 81, 3) := by decide +kernel
theorem dX7_readLine_162 : decode cX7_readLine 162 = .ok (.goto 42, 3) := by decide +kernel
theorem dX7_readLine_165 : decode cX7_readLine 165 = .ok (.aload_n 0, 1) := by decide +kernel
theorem dX7_readLine_166 : decode cX7_readLine 166 = .ok (.invokevirtual 84, 3) := by decide +kernel
theorem dX7_readLine_169 : decode cX7_readLine 169 = .ok (.goto 35, 3) := by decide +kernel
theorem dX7_readLine_172 : decode cX7_readLine 172 = .ok (.aload_n 0, 1) := by decide +kernel
theorem dX7_readLine_173 : decode cX7_readLine 173 = .ok (.invokevirtual 87, 3) := by decide +kernel
theorem dX7_readLine_176 : decode cX7_readLine 176 = .ok (.goto 28, 3) := by decide +kernel
theorem dX7_readLine_179 : decode cX7_readLine 179 = .ok (.aload_n 0, 1) := by decide +kernel
theorem dX7_readLine_180 : decode cX7_readLine 180 = .ok (.invokevirtual 90, 3) := by decide +kernel
theorem dX7_readLine_183 : decode cX7_readLine 183 = .ok (.goto 21, 3) := by decide +kernel
theorem dX7_readLine_186 : decode cX7_readLine 186 = .ok (.aload_n 0, 1) := by decide +kernel
theorem dX7_readLine_187 : decode cX7_readLine 187 = .ok (.invokevirtual 93, 3) := by decide +kernel
theorem dX7_readLine_190 : decode cX7_readLine 190 = .ok (.goto 14, 3) := by decide +kernel
theorem dX7_readLine_193 : decode cX7_readLine 193 = .ok (.aload_n 0, 1) := by decide +kernel
theorem dX7_readLine_194 : decode cX7_readLine 194 = .ok (.invokevirtual 96, 3) := by decide +kernel
theorem dX7_readLine_197 : decode cX7_readLine 197 = .ok (.goto 7, 3) := by decide +kernel
theorem dX7_readLine_200 : decode cX7_readLine 200 = .ok (.aload_n 0, 1) := by decide +kernel
theorem dX7_readLine_201 : decode cX7_readLine 201 = .ok (.invokevirtual 99, 3) := by decide +kernel
theorem dX7_readLine_204 : decode cX7_readLine 204 = .ok (.aload_n 0, 1) := by decide +kernel
theorem dX7_readLine_205 : decode cX7_readLine 205 = .ok (.bipush 24, 2) := by decide +kernel
theorem dX7_readLine_207 : decode cX7_readLine 207 = .ok (.invokevirtual 102, 3) := by decide +kernel
theorem dX7_readLine_210 : decode cX7_readLine 210 = .ok (.aload_n 0, 1) := by decide +kernel
theorem dX7_readLine_211 : decode cX7_readLine 211 = .ok (.dup, 1) := by decide +kernel
theorem dX7_readLine_212 : decode cX7_readLine 212 = .ok (.getfield 32, 3) := by decide +kernel
theorem dX7_readLine_215 : decode cX7_readLine 215 = .ok (.iconst 1, 1) := by decide +kernel
theorem dX7_readLine_216 : decode cX7_readLine 216 = .ok (.iadd, 1) := by decide +kernel
theorem dX7_readLine_217 : decode cX7_readLine 217 = .ok (.putfield 32, 3) := by decide +kernel
theorem dX7_readLine_220 : decode cX7_readLine 220 = .ok (.return_, 1) := by decide +kernel
theorem dX7_readPond_0 : decode cX7_readPond 0 = .ok (.aload_n 0, 1) := by decide +kernel
theorem dX7_readPond_1 : decode cX7_readPond 1 = .ok (.getfield 12, 3) := by decide +kernel
theorem dX7_readPond_4 : decode cX7_readPond 4 = .ok (.invokevirtual 62, 3) := by decide +kernel
theorem dX7_readPond_7 : decode cX7_readPond 7 = .ok (.istore_n 1, 1) := by decide +kernel
theorem dX7_readPond_8 : decode cX7_readPond 8 = .ok (.aload_n 0, 1) := by decide +kernel
theorem dX7_readPond_9 : decode cX7_readPond 9 = .ok (.invokevirtual 105, 3) := by decide +kernel
theorem dX7_readPond_12 : decode cX7_readPond 12 = .ok (.istore_n 2, 1) := by decide +kernel
theorem dX7_readPond_13 : decode cX7_readPond 13 = .ok (.aload_n 0, 1) := by decide +kernel
theorem dX7_readPond_14 : decode cX7_readPond 14 = .ok (.getfield 21, 3) := by decide +kernel
theorem dX7_readPond_17 : decode cX7_readPond 17 = .ok (.iload_n 2, 1) := by decide +kernel
theorem dX7_readPond_18 : decode cX7_readPond 18 = .ok (.invokevirtual 108, 3) := by decide +kernel
theorem dX7_readPond_21 : decode cX7_readPond 21 = .ok (.iconst (-1), 1) := by decide +kernel
theorem dX7_readPond_22 : decode cX7_readPond 22 = .ok (.if_icmp .eq 9, 3) := by decide +kernel
theorem dX7_readPond_25 : decode cX7_readPond 25 = .ok (.aload_n 0, 1) := by decide +kernel
theorem dX7_readPond_26 : decode cX7_readPond 26 = .ok (.iconst 3, 1) := by decide +kernel
theorem dX7_readPond_27 : decode cX7_readPond 27 = .ok (.iload_n 1, 1) := by decide +kernel
theorem dX7_readPond_28 : decode cX7_readPond 28 = .ok (.invokevirtual 64, 3) := by decide +kernel
theorem dX7_readPond_31 : decode cX7_readPond 31 = .ok (.aload_n 0, 1) := by decide +kernel
theorem dX7_readPond_32 : decode cX7_readPond 32 = .ok (.iconst 1, 1) := by decide +kernel
theorem dX7_readPond_33 : decode cX7_readPond 33 = .ok (.bipush 20, 2) := by decide +kernel
theorem dX7_readPond_35 : decode cX7_readPond 35 = .ok (.invokevirtual 112, 3) := by decide +kernel
theorem dX7_readPond_38 : decode cX7_readPond 38 = .ok (.istore_n 3, 1) := by decide +kernel
theorem dX7_readPond_39 : decode cX7_readPond 39 = .ok (.aload_n 0, 1) := by decide +kernel
theorem dX7_readPond_40 : decode cX7_readPond 40 = .ok (.iconst 0, 1) := by decide +kernel
theorem dX7_readPond_41 : decode cX7_readPond 41 = .ok (.bipush 99, 2) := by decide +kernel
theorem dX7_readPond_43 : decode cX7_readPond 43 = .ok (.invokevirtual 112, 3) := by decide +kernel
theorem dX7_readPond_46 : decode cX7_readPond 46 = .ok (.istore 4, 2) := by decide +kernel
theorem dX7_readPond_48 : decode cX7_readPond 48 = .ok (.aload_n 0, 1) := by decide +kernel
theorem dX7_readPond_49 : decode cX7_readPond 49 = .ok (.iconst 0, 1) := by decide +kernel
theorem dX7_readPond_50 : decode cX7_readPond 50 = .ok (.sipush 999, 3) := by decide +kernel
theorem dX7_readPond_53 : decode cX7_readPond 53 = .ok (.invokevirtual 112, 3) := by decide +kernel
theorem dX7_readPond_56 : decode cX7_readPond 56 = .ok (.istore 5, 2) := by decide +kernel
theorem dX7_readPond_58 : decode cX7_readPond 58 = .ok (.aload_n 0, 1) := by decide +kernel
theorem dX7_readPond_59 : decode cX7_readPond 59 = .ok (.getfield 29, 3) := by decide +kernel
theorem dX7_readPond_62 : decode cX7_readPond 62 = .ok (.ifCond .ne 16, 3) := by decide +kernel
theorem dX7_readPond_65 : decode cX7_readPond 65 = .ok (.aload_n 0, 1) := by decide +kernel
theorem dX7_readPond_66 : decode cX7_readPond 66 = .ok (.getfield 21, 3) := by decide +kernel
theorem dX7_readPond_69 : decode cX7_readPond 69 = .ok (.iload_n 2, 1) := by decide +kernel
theorem dX7_readPond_70 : decode cX7_readPond 70 = .ok (.iload_n 3, 1) := by decide +kernel
theorem dX7_readPond_71 : decode cX7_readPond 71 = .ok (.iload 4, 2) := by decide +kernel
theorem dX7_readPond_73 : decode cX7_readPond 73 = .ok (.iload 5, 2) := by decide +kernel
theorem dX7_readPond_75 : decode cX7_readPond 75 = .ok (.invokevirtual 116, 3) := by decide +kernel
theorem dX7_readPond_78 : decode cX7_readPond 78 = .ok (.return_, 1) := by decide +kernel
theorem dX7_readLock_0 : decode cX7_readLock 0 = .ok (.aload_n 0, 1) := by decide +kernel
theorem dX7_readLock_1 : decode cX7_readLock 1 = .ok (.getfield 12, 3) := by decide +kernel
theorem dX7_readLock_4 : decode cX7_readLock 4 = .ok (.invokevirtual 62, 3) := by decide +kernel
theorem dX7_readLock_7 : decode cX7_readLock 7 = .ok (.istore_n 1, 1) := by decide +kernel
theorem dX7_readLock_8 : decode cX7_readLock 8 = .ok (.aload_n 0, 1) := by decide +kernel
theorem dX7_readLock_9 : decode cX7_readLock 9 = .ok (.invokevirtual 120, 3) := by decide +kernel
theorem dX7_readLock_12 : decode cX7_readLock 12 = .ok (.istore_n 2, 1) := by decide +kernel
theorem dX7_readLock_13 : decode cX7_readLock 13 = .ok (.aload_n 0, 1) := by decide +kernel
theorem dX7_readLock_14 : decode cX7_readLock 14 = .ok (.getfield 29, 3) := by decide +kernel
theorem dX7_readLock_17 : decode cX7_readLock 17 = .ok (.ifCond .ne 24, 3) := by decide +kernel
theorem dX7_readLock_20 : decode cX7_readLock 20 = .ok (.aload_n 0, 1) := by decide +kernel
theorem dX7_readLock_21 : decode cX7_readLock 21 = .ok (.getfield 21, 3) := by decide +kernel
theorem dX7_readLock_24 : decode cX7_readLock 24 = .ok (.getfield 123, 3) := by decide +kernel
theorem dX7_readLock_27 : decode cX7_readLock 27 = .ok (.iload_n 2, 1) := by decide +kernel
theorem dX7_readLock_28 : decode cX7_readLock 28 = .ok (.invokevirtual 127, 3) := by decide +kernel
theorem dX7_readLock_31 : decode cX7_readLock 31 = .ok (.iconst (-1), 1) := by decide +kernel
theorem dX7_readLock_32 : decode cX7_readLock 32 = .ok (.if_icmp .eq 9, 3) := by decide +kernel
theorem dX7_readLock_35 : decode cX7_readLock 35 = .ok (.aload_n 0, 1) := by decide +kernel
theorem dX7_readLock_36 : decode cX7_readLock 36 = .ok (.iconst 3, 1) := by decide +kernel
theorem dX7_readLock_37 : decode cX7_readLock 37 = .ok (.iload_n 1, 1) := by decide +kernel
theorem dX7_readLock_38 : decode cX7_readLock 38 = .ok (.invokevirtual 64, 3) := by decide +kernel
theorem dX7_readLock_41 : decode cX7_readLock 41 = .ok (.aload_n 0, 1) := by decide +kernel
theorem dX7_readLock_42 : decode cX7_readLock 42 = .ok (.iconst 0, 1) := by decide +kernel
theorem dX7_readLock_43 : decode cX7_readLock 43 = .ok (.sipush 199, 3) := by decide +kernel
theorem dX7_readLock_46 : decode cX7_readLock 46 = .ok (.invokevirtual 112, 3) := by decide +kernel
theorem dX7_readLock_49 : decode cX7_readLock 49 = .ok (.istore_n 3, 1) := by decide +kernel
theorem dX7_readLock_50 : decode cX7_readLock 50 = .ok (.aload_n 0, 1) := by decide +kernel
theorem dX7_readLock_51 : decode cX7_readLock 51 = .ok (.iconst 0, 1) := by decide +kernel
theorem dX7_readLock_52 : decode cX7_readLock 52 = .ok (.sipush 199, 3) := by decide +kernel
theorem dX7_readLock_55 : decode cX7_readLock 55 = .ok (.invokevirtual 112, 3) := by decide +kernel
theorem dX7_readLock_58 : decode cX7_readLock 58 = .ok (.istore 4, 2) := by decide +kernel
theorem dX7_readLock_60 : decode cX7_readLock 60 = .ok (.aload_n 0, 1) := by decide +kernel
theorem dX7_readLock_61 : decode cX7_readLock 61 = .ok (.getfield 29, 3) := by decide +kernel
theorem dX7_readLock_64 : decode cX7_readLock 64 = .ok (.ifCond .ne 17, 3) := by decide +kernel
theorem dX7_readLock_67 : decode cX7_readLock 67 = .ok (.aload_n 0, 1) := by decide +kernel
theorem dX7_readLock_68 : decode cX7_readLock 68 = .ok (.getfield 21, 3) := by decide +kernel
theorem dX7_readLock_71 : decode cX7_readLock 71 = .ok (.getfield 123, 3) := by decide +kernel
theorem dX7_readLock_74 : decode cX7_readLock 74 = .ok (.iload_n 2, 1) := by decide +kernel
theorem dX7_readLock_75 : decode cX7_readLock 75 = .ok (.iload_n 3, 1) := by decide +kernel
theorem dX7_readLock_76 : decode cX7_readLock 76 = .ok (.iload 4, 2) := by decide +kernel
theorem dX7_readLock_78 : decode cX7_readLock 78 = .ok (.invokevirtual 132, 3) := by decide +kernel
theorem dX7_readLock_81 : decode cX7_readLock 81 = .ok (.return_, 1) := by decide +kernel
theorem dX7_readPipe_0 : decode cX7_readPipe 0 = .ok (.aload_n 0, 1) := by decide +kernel
theorem dX7_readPipe_1 : decode cX7_readPipe 1 = .ok (.invokevirtual 120, 3) := by decide +kernel
theorem dX7_readPipe_4 : decode cX7_readPipe 4 = .ok (.istore_n 1, 1) := by decide +kernel
theorem dX7_readPipe_5 : decode cX7_readPipe 5 = .ok (.aload_n 0, 1) := by decide +kernel
theorem dX7_readPipe_6 : decode cX7_readPipe 6 = .ok (.getfield 12, 3) := by decide +kernel
theorem dX7_readPipe_9 : decode cX7_readPipe 9 = .ok (.invokevirtual 62, 3) := by decide +kernel
theorem dX7_readPipe_12 : decode cX7_readPipe 12 = .ok (.istore_n 2, 1) := by decide +kernel
theorem dX7_readPipe_13 : decode cX7_readPipe 13 = .ok (.aload_n 0, 1) := by decide +kernel
theorem dX7_readPipe_14 : decode cX7_readPipe 14 = .ok (.invokevirtual 120, 3) := by decide +kernel
theorem dX7_readPipe_17 : decode cX7_readPipe 17 = .ok (.istore_n 3, 1) := by decide +kernel
theorem dX7_readPipe_18 : decode cX7_readPipe 18 = .ok (.aload_n 0, 1) := by decide +kernel
theorem dX7_readPipe_19 : decode cX7_readPipe 19 = .ok (.getfield 29, 3) := by decide +kernel
theorem dX7_readPipe_22 : decode cX7_readPipe 22 = .ok (.ifCond .ne 21, 3) := by decide +kernel
theorem dX7_readPipe_25 : decode cX7_readPipe 25 = .ok (.aload_n 0, 1) := by decide +kernel
theorem dX7_readPipe_26 : decode cX7_readPipe 26 = .ok (.getfield 21, 3) := by decide +kernel
theorem dX7_readPipe_29 : decode cX7_readPipe 29 = .ok (.iload_n 1, 1) := by decide +kernel
theorem dX7_readPipe_30 : decode cX7_readPipe 30 = .ok (.iload_n 3, 1) := by decide +kernel
theorem dX7_readPipe_31 : decode cX7_readPipe 31 = .ok (.invokevirtual 136, 3) := by decide +kernel
theorem dX7_readPipe_34 : decode cX7_readPipe 34 = .ok (.ifCond .eq 9, 3) := by decide +kernel
theorem dX7_readPipe_37 : decode cX7_readPipe 37 = .ok (.aload_n 0, 1) := by decide +kernel
theorem dX7_readPipe_38 : decode cX7_readPipe 38 = .ok (.iconst 3, 1) := by decide +kernel
theorem dX7_readPipe_39 : decode cX7_readPipe 39 = .ok (.iload_n 2, 1) := by decide +kernel
theorem dX7_readPipe_40 : decode cX7_readPipe 40 = .ok (.invokevirtual 64, 3) := by decide +kernel
theorem dX7_readPipe_43 : decode cX7_readPipe 43 = .ok (.aload_n 0, 1) := by decide +kernel
theorem dX7_readPipe_44 : decode cX7_readPipe 44 = .ok (.getfield 29, 3) := by decide +kernel
theorem dX7_readPipe_47 : decode cX7_readPipe 47 = .ok (.ifCond .ne 14, 3) := by decide +kernel
theorem dX7_readPipe_50 : decode cX7_readPipe 50 = .ok (.iload_n 1, 1) := by decide +kernel
theorem dX7_readPipe_51 : decode cX7_readPipe 51 = .ok (.iload_n 3, 1) := by decide +kernel
theorem dX7_readPipe_52 : decode cX7_readPipe 52 = .ok (.if_icmp .ne 9, 3) := by decide +kernel
theorem dX7_readPipe_55 : decode cX7_readPipe 55 = .ok (.aload_n 0, 1) := by decide +kernel
theorem dX7_readPipe_56 : decode cX7_readPipe 56 = .ok (.iconst 5, 1) := by decide +kernel
theorem dX7_readPipe_57 : decode cX7_readPipe 57 = .ok (.iload_n 2, 1) := by decide +kernel
theorem dX7_readPipe_58 : decode cX7_readPipe 58 = .ok (.invokevirtual 64, 3) := by decide +kernel
theorem dX7_readPipe_61 : decode cX7_readPipe 61 = .ok (.aload_n 0, 1) := by decide +kernel
theorem dX7_readPipe_62 : decode cX7_readPipe 62 = .ok (.iconst 1, 1) := by decide +kernel
theorem dX7_readPipe_63 : decode cX7_readPipe 63 = .ok (.bipush 99, 2) := by decide +kernel
theorem dX7_readPipe_65 : decode cX7_readPipe 65 = .ok (.invokevirtual 112, 3) := by decide +kernel
theorem dX7_readPipe_68 : decode cX7_readPipe 68 = .ok (.istore 4, 2) := by decide +kernel
theorem dX7_readPipe_70 : decode cX7_readPipe 70 = .ok (.aload_n 0, 1) := by decide +kernel
theorem dX7_readPipe_71 : decode cX7_readPipe 71 = .ok (.getfield 29, 3) := by decide +kernel
theorem dX7_readPipe_74 : decode cX7_readPipe 74 = .ok (.ifCond .ne 14, 3) := by decide +kernel
theorem dX7_readPipe_77 : decode cX7_readPipe 77 = .ok (.aload_n 0, 1) := by decide +kernel
theorem dX7_readPipe_78 : decode cX7_readPipe 78 = .ok (.getfield 21, 3) := by decide +kernel
theorem dX7_readPipe_81 : decode cX7_readPipe 81 = .ok (.iload_n 1, 1) := by decide +kernel
theorem dX7_readPipe_82 : decode cX7_readPipe 82 = .ok (.iload_n 3, 1) := by decide +kernel
theorem dX7_readPipe_83 : decode cX7_readPipe 83 = .ok (.iload 4, 2) := by decide +kernel
theorem dX7_readPipe_85 : decode cX7_readPipe 85 = .ok (.invokevirtual 140, 3) := by decide +kernel
theorem dX7_readPipe_88 : decode cX7_readPipe 88 = .ok (.return_, 1) := by decide +kernel
theorem dX7_readTurn_0 : decode cX7_readTurn 0 = .ok (.aload_n 0, 1) := by decide +kernel
theorem dX7_readTurn_1 : decode cX7_readTurn 1 = .ok (.getfield 12, 3) := by decide +kernel
theorem dX7_readTurn_4 : decode cX7_readTurn 4 = .ok (.invokevirtual 62, 3) := by decide +kernel
theorem dX7_readTurn_7 : decode cX7_readTurn 7 = .ok (.istore_n 1, 1) := by decide +kernel
theorem dX7_readTurn_8 : decode cX7_readTurn 8 = .ok (.aload_n 0, 1) := by decide +kernel
theorem dX7_readTurn_9 : decode cX7_readTurn 9 = .ok (.iconst 0, 1) := by decide +kernel
theorem dX7_readTurn_10 : decode cX7_readTurn 10 = .ok (.bipush 9, 2) := by decide +kernel
theorem dX7_readTurn_12 : decode cX7_readTurn 12 = .ok (.invokevirtual 112, 3) := by decide +kernel
theorem dX7_readTurn_15 : decode cX7_readTurn 15 = .ok (.istore_n 2, 1) := by decide +kernel
theorem dX7_readTurn_16 : decode cX7_readTurn 16 = .ok (.iload_n 2, 1) := by decide +kernel
theorem dX7_readTurn_17 : decode cX7_readTurn 17 = .ok (.aload_n 0, 1) := by decide +kernel
theorem dX7_readTurn_18 : decode cX7_readTurn 18 = .ok (.getfield 21, 3) := by decide +kernel
theorem dX7_readTurn_21 : decode cX7_readTurn 21 = .ok (.getfield 143, 3) := by decide +kernel
theorem dX7_readTurn_24 : decode cX7_readTurn 24 = .ok (.if_icmp .lt 9, 3) := by decide +kernel
theorem dX7_readTurn_27 : decode cX7_readTurn 27 = .ok (.aload_n 0, 1) := by decide +kernel
theorem dX7_readTurn_28 : decode cX7_readTurn 28 = .ok (.iconst 4, 1) := by decide +kernel
theorem dX7_readTurn_29 : decode cX7_readTurn 29 = .ok (.iload_n 1, 1) := by decide +kernel
theorem dX7_readTurn_30 : decode cX7_readTurn 30 = .ok (.invokevirtual 64, 3) := by decide +kernel
theorem dX7_readTurn_33 : decode cX7_readTurn 33 = .ok (.aload_n 0, 1) := by decide +kernel
theorem dX7_readTurn_34 : decode cX7_readTurn 34 = .ok (.iconst 0, 1) := by decide +kernel
theorem dX7_readTurn_35 : decode cX7_readTurn 35 = .ok (.bipush 99, 2) := by decide +kernel
theorem dX7_readTurn_37 : decode cX7_readTurn 37 = .ok (.invokevirtual 112, 3) := by decide +kernel
theorem dX7_readTurn_40 : decode cX7_readTurn 40 = .ok (.istore_n 3, 1) := by decide +kernel
theorem dX7_readTurn_41 : decode cX7_readTurn 41 = .ok (.aload_n 0, 1) := by decide +kernel
theorem dX7_readTurn_42 : decode cX7_readTurn 42 = .ok (.iconst 1, 1) := by decide +kernel
theorem dX7_readTurn_43 : decode cX7_readTurn 43 = .ok (.bipush 20, 2) := by decide +kernel
theorem dX7_readTurn_45 : decode cX7_readTurn 45 = .ok (.invokevirtual 112, 3) := by decide +kernel
theorem dX7_readTurn_48 : decode cX7_readTurn 48 = .ok (.istore 4, 2) := by decide +kernel
theorem dX7_readTurn_50 : decode cX7_readTurn 50 = .ok (.aload_n 0, 1) := by decide +kernel
theorem dX7_readTurn_51 : decode cX7_readTurn 51 = .ok (.getfield 29, 3) := by decide +kernel
theorem dX7_readTurn_54 : decode cX7_readTurn 54 = .ok (.ifCond .ne 14, 3) := by decide +kernel
theorem dX7_readTurn_57 : decode cX7_readTurn 57 = .ok (.aload_n 0, 1) := by decide +kernel
theorem dX7_readTurn_58 : decode cX7_readTurn 58 = .ok (.getfield 21, 3) := by decide +kernel
theorem dX7_readTurn_61 : decode cX7_readTurn 61 = .ok (.iload_n 2, 1) := by decide +kernel
theorem dX7_readTurn_62 : decode cX7_readTurn 62 = .ok (.iload_n 3, 1) := by decide +kernel
theorem dX7_readTurn_63 : decode cX7_readTurn 63 = .ok (.iload 4, 2) := by decide +kernel
theorem dX7_readTurn_65 : decode cX7_readTurn 65 = .ok (.invokevirtual 146, 3) := by decide +kernel
theorem dX7_readTurn_68 : decode cX7_readTurn 68 = .ok (.return_, 1) := by decide +kernel
theorem dX7_readBoat_0 : decode cX7_readBoat 0 = .ok (.aload_n 0, 1) := by decide +kernel
theorem dX7_readBoat_1 : decode cX7_readBoat 1 = .ok (.getfield 12, 3) := by decide +kernel
theorem dX7_readBoat_4 : decode cX7_readBoat 4 = .ok (.invokevirtual 62, 3) := by decide +kernel
theorem dX7_readBoat_7 : decode cX7_readBoat 7 = .ok (.istore_n 1, 1) := by decide +kernel
theorem dX7_readBoat_8 : decode cX7_readBoat 8 = .ok (.aload_n 0, 1) := by decide +kernel
theorem dX7_readBoat_9 : decode cX7_readBoat 9 = .ok (.invokevirtual 120, 3) := by decide +kernel
theorem dX7_readBoat_12 : decode cX7_readBoat 12 = .ok (.istore_n 2, 1) := by decide +kernel
theorem dX7_readBoat_13 : decode cX7_readBoat 13 = .ok (.aload_n 0, 1) := by decide +kernel
theorem dX7_readBoat_14 : decode cX7_readBoat 14 = .ok (.getfield 29, 3) := by decide +kernel
theorem dX7_readBoat_17 : decode cX7_readBoat 17 = .ok (.ifCond .ne 17, 3) := by decide +kernel
theorem dX7_readBoat_20 : decode cX7_readBoat 20 = .ok (.aload_n 0, 1) := by decide +kernel
theorem dX7_readBoat_21 : decode cX7_readBoat 21 = .ok (.getfield 21, 3) := by decide +kernel
theorem dX7_readBoat_24 : decode cX7_readBoat 24 = .ok (.getfield 123, 3) := by decide +kernel
theorem dX7_readBoat_27 : decode cX7_readBoat 27 = .ok (.iload_n 2, 1) := by decide +kernel
theorem dX7_readBoat_28 : decode cX7_readBoat 28 = .ok (.invokevirtual 127, 3) := by decide +kernel
theorem dX7_readBoat_31 : decode cX7_readBoat 31 = .ok (.goto 4, 3) := by decide +kernel
theorem dX7_readBoat_34 : decode cX7_readBoat 34 = .ok (.iconst (-1), 1) := by decide +kernel
theorem dX7_readBoat_35 : decode cX7_readBoat 35 = .ok (.istore_n 3, 1) := by decide +kernel
theorem dX7_readBoat_36 : decode cX7_readBoat 36 = .ok (.iload_n 3, 1) := by decide +kernel
theorem dX7_readBoat_37 : decode cX7_readBoat 37 = .ok (.iconst (-1), 1) := by decide +kernel
theorem dX7_readBoat_38 : decode cX7_readBoat 38 = .ok (.if_icmp .ne 9, 3) := by decide +kernel
theorem dX7_readBoat_41 : decode cX7_readBoat 41 = .ok (.aload_n 0, 1) := by decide +kernel
theorem dX7_readBoat_42 : decode cX7_readBoat 42 = .ok (.iconst 4, 1) := by decide +kernel
theorem dX7_readBoat_43 : decode cX7_readBoat 43 = .ok (.iload_n 1, 1) := by decide +kernel
theorem dX7_readBoat_44 : decode cX7_readBoat 44 = .ok (.invokevirtual 64, 3) := by decide +kernel
theorem dX7_readBoat_47 : decode cX7_readBoat 47 = .ok (.aload_n 0, 1) := by decide +kernel
theorem dX7_readBoat_48 : decode cX7_readBoat 48 = .ok (.iconst 0, 1) := by decide +kernel
theorem dX7_readBoat_49 : decode cX7_readBoat 49 = .ok (.bipush 99, 2) := by decide +kernel
theorem dX7_readBoat_51 : decode cX7_readBoat 51 = .ok (.invokevirtual 112, 3) := by decide +kernel
theorem dX7_readBoat_54 : decode cX7_readBoat 54 = .ok (.istore 4, 2) := by decide +kernel
theorem dX7_readBoat_56 : decode cX7_readBoat 56 = .ok (.aload_n 0, 1) := by decide +kernel
theorem dX7_readBoat_57 : decode cX7_readBoat 57 = .ok (.getfield 29, 3) := by decide +kernel
theorem dX7_readBoat_60 : decode cX7_readBoat 60 = .ok (.ifCond .ne 16, 3) := by decide +kernel
theorem dX7_readBoat_63 : decode cX7_readBoat 63 = .ok (.aload_n 0, 1) := by decide +kernel
theorem dX7_readBoat_64 : decode cX7_readBoat 64 = .ok (.getfield 21, 3) := by decide +kernel
theorem dX7_readBoat_67 : decode cX7_readBoat 67 = .ok (.getfield 123, 3) := by decide +kernel
theorem dX7_readBoat_70 : decode cX7_readBoat 70 = .ok (.iload_n 3, 1) := by decide +kernel
theorem dX7_readBoat_71 : decode cX7_readBoat 71 = .ok (.iload 4, 2) := by decide +kernel
theorem dX7_readBoat_73 : decode cX7_readBoat 73 = .ok (.invokevirtual 149, 3) := by decide +kernel
theorem dX7_readBoat_76 : decode cX7_readBoat 76 = .ok (.return_, 1) := by decide +kernel
theorem dX7_readSpring_0 : decode cX7_readSpring 0 = .ok (.aload_n 0, 1) := by decide +kernel
theorem dX7_readSpring_1 : decode cX7_readSpring 1 = .ok (.getfield 12, 3) := by decide +kernel
theorem dX7_readSpring_4 : decode cX7_readSpring 4 = .ok (.invokevirtual 62, 3) := by decide +kernel
theorem dX7_readSpring_7 : decode cX7_readSpring 7 = .ok (.istore_n 1, 1) := by decide +kernel
theorem dX7_readSpring_8 : decode cX7_readSpring 8 = .ok (.aload_n 0, 1) := by decide +kernel
theorem dX7_readSpring_9 : decode cX7_readSpring 9 = .ok (.invokevirtual 120, 3) := by decide +kernel
theorem dX7_readSpring_12 : decode cX7_readSpring 12 = .ok (.istore_n 2, 1) := by decide +kernel
theorem dX7_readSpring_13 : decode cX7_readSpring 13 = .ok (.aload_n 0, 1) := by decide +kernel
theorem dX7_readSpring_14 : decode cX7_readSpring 14 = .ok (.getfield 29, 3) := by decide +kernel
theorem dX7_readSpring_17 : decode cX7_readSpring 17 = .ok (.ifCond .ne 21, 3) := by decide +kernel
theorem dX7_readSpring_20 : decode cX7_readSpring 20 = .ok (.aload_n 0, 1) := by decide +kernel
theorem dX7_readSpring_21 : decode cX7_readSpring 21 = .ok (.getfield 35, 3) := by decide +kernel
theorem dX7_readSpring_24 : decode cX7_readSpring 24 = .ok (.iload_n 2, 1) := by decide +kernel
theorem dX7_readSpring_25 : decode cX7_readSpring 25 = .ok (.ishr, 1) := by decide +kernel
theorem dX7_readSpring_26 : decode cX7_readSpring 26 = .ok (.iconst 1, 1) := by decide +kernel
theorem dX7_readSpring_27 : decode cX7_readSpring 27 = .ok (.iand, 1) := by decide +kernel
theorem dX7_readSpring_28 : decode cX7_readSpring 28 = .ok (.iconst 1, 1) := by decide +kernel
theorem dX7_readSpring_29 : decode cX7_readSpring 29 = .ok (.if_icmp .ne 9, 3) := by decide +kernel
theorem dX7_readSpring_32 : decode cX7_readSpring 32 = .ok (.aload_n 0, 1) := by decide +kernel
theorem dX7_readSpring_33 : decode cX7_readSpring 33 = .ok (.iconst 3, 1) := by decide +kernel
theorem dX7_readSpring_34 : decode cX7_readSpring 34 = .ok (.iload_n 1, 1) := by decide +kernel
theorem dX7_readSpring_35 : decode cX7_readSpring 35 = .ok (.invokevirtual 64, 3) := by decide +kernel
theorem dX7_readSpring_38 : decode cX7_readSpring 38 = .ok (.aload_n 0, 1) := by decide +kernel
theorem dX7_readSpring_39 : decode cX7_readSpring 39 = .ok (.iconst 0, 1) := by decide +kernel
theorem dX7_readSpring_40 : decode cX7_readSpring 40 = .ok (.bipush 9, 2) := by decide +kernel
theorem dX7_readSpring_42 : decode cX7_readSpring 42 = .ok (.invokevirtual 112, 3) := by decide +kernel
theorem dX7_readSpring_45 : decode cX7_readSpring 45 = .ok (.istore_n 3, 1) := by decide +kernel
theorem dX7_readSpring_46 : decode cX7_readSpring 46 = .ok (.aload_n 0, 1) := by decide +kernel
theorem dX7_readSpring_47 : decode cX7_readSpring 47 = .ok (.getfield 29, 3) := by decide +kernel
theorem dX7_readSpring_50 : decode cX7_readSpring 50 = .ok (.ifCond .ne 25, 3) := by decide +kernel
theorem dX7_readSpring_53 : decode cX7_readSpring 53 = .ok (.aload_n 0, 1) := by decide +kernel
theorem dX7_readSpring_54 : decode cX7_readSpring 54 = .ok (.dup, 1) := by decide +kernel
theorem dX7_readSpring_55 : decode cX7_readSpring 55 = .ok (.getfield 35, 3) := by decide +kernel
theorem dX7_readSpring_58 : decode cX7_readSpring 58 = .ok (.iconst 1, 1) := by decide +kernel
theorem dX7_readSpring_59 : decode cX7_readSpring 59 = .ok (.iload_n 2, 1) := by decide +kernel
theorem dX7_readSpring_60 : decode cX7_readSpring 60 = .ok (.ishl, 1) := by decide +kernel
theorem dX7_readSpring_61 : decode cX7_readSpring 61 = .ok (.ior, 1) := by decide +kernel
theorem dX7_readSpring_62 : decode cX7_readSpring 62 = .ok (.putfield 35, 3) := by decide +kernel
theorem dX7_readSpring_65 : decode cX7_readSpring 65 = .ok (.aload_n 0, 1) := by decide +kernel
theorem dX7_readSpring_66 : decode cX7_readSpring 66 = .ok (.getfield 21, 3) := by decide +kernel
theorem dX7_readSpring_69 : decode cX7_readSpring 69 = .ok (.getfield 152, 3) := by decide +kernel
theorem dX7_readSpring_72 : decode cX7_readSpring 72 = .ok (.iload_n 2, 1) := by decide +kernel
theorem dX7_readSpring_73 : decode cX7_readSpring 73 = .ok (.iload_n 3, 1) := by decide +kernel
theorem dX7_readSpring_74 : decode cX7_readSpring 74 = .ok (.iastore, 1) := by decide +kernel
theorem dX7_readSpring_75 : decode cX7_readSpring 75 = .ok (.return_, 1) := by decide +kernel
theorem dX7_readJam_0 : decode cX7_readJam 0 = .ok (.aload_n 0, 1) := by decide +kernel
theorem dX7_readJam_1 : decode cX7_readJam 1 = .ok (.iconst 1, 1) := by decide +kernel
theorem dX7_readJam_2 : decode cX7_readJam 2 = .ok (.putfield 38, 3) := by decide +kernel
theorem dX7_readJam_5 : decode cX7_readJam 5 = .ok (.aload_n 0, 1) := by decide +kernel
theorem dX7_readJam_6 : decode cX7_readJam 6 = .ok (.getfield 21, 3) := by decide +kernel
theorem dX7_readJam_9 : decode cX7_readJam 9 = .ok (.aload_n 0, 1) := by decide +kernel
theorem dX7_readJam_10 : decode cX7_readJam 10 = .ok (.iconst 0, 1) := by decide +kernel
theorem dX7_readJam_11 : decode cX7_readJam 11 = .ok (.bipush 100, 2) := by decide +kernel
theorem dX7_readJam_13 : decode cX7_readJam 13 = .ok (.invokevirtual 112, 3) := by decide +kernel
theorem dX7_readJam_16 : decode cX7_readJam 16 = .ok (.putfield 156, 3) := by decide +kernel
theorem dX7_readJam_19 : decode cX7_readJam 19 = .ok (.return_, 1) := by decide +kernel
theorem dX7_readSeed_0 : decode cX7_readSeed 0 = .ok (.aload_n 0, 1) := by decide +kernel
theorem dX7_readSeed_1 : decode cX7_readSeed 1 = .ok (.iconst 1, 1) := by decide +kernel
theorem dX7_readSeed_2 : decode cX7_readSeed 2 = .ok (.putfield 42, 3) := by decide +kernel
theorem dX7_readSeed_5 : decode cX7_readSeed 5 = .ok (.aload_n 0, 1) := by decide +kernel
theorem dX7_readSeed_6 : decode cX7_readSeed 6 = .ok (.getfield 21, 3) := by decide +kernel
theorem dX7_readSeed_9 : decode cX7_readSeed 9 = .ok (.aload_n 0, 1) := by decide +kernel
theorem dX7_readSeed_10 : decode cX7_readSeed 10 = .ok (.iconst 0, 1) := by decide +kernel
theorem dX7_readSeed_11 : decode cX7_readSeed 11 = .ok (.ldc 159, 2) := by decide +kernel
theorem dX7_readSeed_13 : decode cX7_readSeed 13 = .ok (.invokevirtual 112, 3) := by decide +kernel
theorem dX7_readSeed_16 : decode cX7_readSeed 16 = .ok (.putfield 160, 3) := by decide +kernel
theorem dX7_readSeed_19 : decode cX7_readSeed 19 = .ok (.return_, 1) := by decide +kernel
theorem dX7_readLaw_0 : decode cX7_readLaw 0 = .ok (.aload_n 0, 1) := by decide +kernel
theorem dX7_readLaw_1 : decode cX7_readLaw 1 = .ok (.getfield 12, 3) := by decide +kernel
theorem dX7_readLaw_4 : decode cX7_readLaw 4 = .ok (.invokevirtual 55, 3) := by decide +kernel
theorem dX7_readLaw_7 : decode cX7_readLaw 7 = .ok (.bipush 9, 2) := by decide +kernel
theorem dX7_readLaw_9 : decode cX7_readLaw 9 = .ok (.if_icmp .lt 15, 3) := by decide +kernel
theorem dX7_readLaw_12 : decode cX7_readLaw 12 = .ok (.aload_n 0, 1) := by decide +kernel
theorem dX7_readLaw_13 : decode cX7_readLaw 13 = .ok (.getfield 12, 3) := by decide +kernel
theorem dX7_readLaw_16 : decode cX7_readLaw 16 = .ok (.invokevirtual 55, 3) := by decide +kernel
theorem dX7_readLaw_19 : decode cX7_readLaw 19 = .ok (.bipush 11, 2) := by decide +kernel
theorem dX7_readLaw_21 : decode cX7_readLaw 21 = .ok (.if_icmp .le 16, 3) := by decide +kernel
theorem dX7_readLaw_24 : decode cX7_readLaw 24 = .ok (.aload_n 0, 1) := by decide +kernel
theorem dX7_readLaw_25 : decode cX7_readLaw 25 = .ok (.iconst 1, 1) := by decide +kernel
theorem dX7_readLaw_26 : decode cX7_readLaw 26 = .ok (.aload_n 0, 1) := by decide +kernel
theorem dX7_readLaw_27 : decode cX7_readLaw 27 = .ok (.getfield 12, 3) := by decide +kernel
theorem dX7_readLaw_30 : decode cX7_readLaw 30 = .ok (.invokevirtual 62, 3) := by decide +kernel
theorem dX7_readLaw_33 : decode cX7_readLaw 33 = .ok (.invokevirtual 64, 3) := by decide +kernel
theorem dX7_readLaw_36 : decode cX7_readLaw 36 = .ok (.return_, 1) := by decide +kernel
theorem dX7_readLaw_37 : decode cX7_readLaw 37 = .ok (.aload_n 0, 1) := by decide +kernel
theorem dX7_readLaw_38 : decode cX7_readLaw 38 = .ok (.getfield 12, 3) := by decide +kernel
theorem dX7_readLaw_41 : decode cX7_readLaw 41 = .ok (.invokevirtual 55, 3) := by decide +kernel
theorem dX7_readLaw_44 : decode cX7_readLaw 44 = .ok (.bipush 9, 2) := by decide +kernel
theorem dX7_readLaw_46 : decode cX7_readLaw 46 = .ok (.isub, 1) := by decide +kernel
theorem dX7_readLaw_47 : decode cX7_readLaw 47 = .ok (.istore_n 1, 1) := by decide +kernel
theorem dX7_readLaw_48 : decode cX7_readLaw 48 = .ok (.aload_n 0, 1) := by decide +kernel
theorem dX7_readLaw_49 : decode cX7_readLaw 49 = .ok (.getfield 21, 3) := by decide +kernel
theorem dX7_readLaw_52 : decode cX7_readLaw 52 = .ok (.getfield 163, 3) := by decide +kernel
theorem dX7_readLaw_55 : decode cX7_readLaw 55 = .ok (.iload_n 1, 1) := by decide +kernel
theorem dX7_readLaw_56 : decode cX7_readLaw 56 = .ok (.invokevirtual 167, 3) := by decide +kernel
theorem dX7_readLaw_59 : decode cX7_readLaw 59 = .ok (.ifCond .eq 16, 3) := by decide +kernel
theorem dX7_readLaw_62 : decode cX7_readLaw 62 = .ok (.aload_n 0, 1) := by decide +kernel
theorem dX7_readLaw_63 : decode cX7_readLaw 63 = .ok (.iconst 3, 1) := by decide +kernel
theorem dX7_readLaw_64 : decode cX7_readLaw 64 = .ok (.aload_n 0, 1) := by decide +kernel
theorem dX7_readLaw_65 : decode cX7_readLaw 65 = .ok (.getfield 12, 3) := by decide +kernel
theorem dX7_readLaw_68 : decode cX7_readLaw 68 = .ok (.invokevirtual 62, 3) := by decide +kernel
theorem dX7_readLaw_71 : decode cX7_readLaw 71 = .ok (.invokevirtual 64, 3) := by decide +kernel
theorem dX7_readLaw_74 : decode cX7_readLaw 74 = .ok (.return_, 1) := by decide +kernel
theorem dX7_readLaw_75 : decode cX7_readLaw 75 = .ok (.aload_n 0, 1) := by decide +kernel
theorem dX7_readLaw_76 : decode cX7_readLaw 76 = .ok (.getfield 12, 3) := by decide +kernel
theorem dX7_readLaw_79 : decode cX7_readLaw 79 = .ok (.invokevirtual 72, 3) := by decide +kernel
theorem dX7_readLaw_82 : decode cX7_readLaw 82 = .ok (.aload_n 0, 1) := by decide +kernel
theorem dX7_readLaw_83 : decode cX7_readLaw 83 = .ok (.iconst 0, 1) := by decide +kernel
theorem dX7_readLaw_84 : decode cX7_readLaw 84 = .ok (.putfield 172, 3) := by decide +kernel
theorem dX7_readLaw_87 : decode cX7_readLaw 87 = .ok (.aload_n 0, 1) := by decide +kernel
theorem dX7_readLaw_88 : decode cX7_readLaw 88 = .ok (.getfield 21, 3) := by decide +kernel
theorem dX7_readLaw_91 : decode cX7_readLaw 91 = .ok (.getfield 163, 3) := by decide +kernel
theorem dX7_readLaw_94 : decode cX7_readLaw 94 = .ok (.iload_n 1, 1) := by decide +kernel
theorem dX7_readLaw_95 : decode cX7_readLaw 95 = .ok (.invokevirtual 175, 3) := by decide +kernel
theorem dX7_readLaw_98 : decode cX7_readLaw 98 = .ok (.aload_n 0, 1) := by decide +kernel
theorem dX7_readLaw_99 : decode cX7_readLaw 99 = .ok (.iconst 0, 1) := by decide +kernel
theorem dX7_readLaw_100 : decode cX7_readLaw 100 = .ok (.invokevirtual 178, 3) := by decide +kernel
theorem dX7_readLaw_103 : decode cX7_readLaw 103 = .ok (.aload_n 0, 1) := by decide +kernel
theorem dX7_readLaw_104 : decode cX7_readLaw 104 = .ok (.getfield 21, 3) := by decide +kernel
theorem dX7_readLaw_107 : decode cX7_readLaw 107 = .ok (.getfield 163, 3) := by decide +kernel
theorem dX7_readLaw_110 : decode cX7_readLaw 110 = .ok (.iload_n 1, 1) := by decide +kernel
theorem dX7_readLaw_111 : decode cX7_readLaw 111 = .ok (.invokevirtual 181, 3) := by decide +kernel
theorem dX7_readLaw_114 : decode cX7_readLaw 114 = .ok (.return_, 1) := by decide +kernel
theorem dX7_readRanked_0 : decode cX7_readRanked 0 = .ok (.aload_n 0, 1) := by decide +kernel
theorem dX7_readRanked_1 : decode cX7_readRanked 1 = .ok (.getfield 29, 3) := by decide +kernel
theorem dX7_readRanked_4 : decode cX7_readRanked 4 = .ok (.ifCond .eq 4, 3) := by decide +kernel
theorem dX7_readRanked_7 : decode cX7_readRanked 7 = .ok (.return_, 1) := by decide +kernel
theorem dX7_readRanked_8 : decode cX7_readRanked 8 = .ok (.iload_n 1, 1) := by decide +kernel
theorem dX7_readRanked_9 : decode cX7_readRanked 9 = .ok (.bipush 6, 2) := by decide +kernel
theorem dX7_readRanked_11 : decode cX7_readRanked 11 = .ok (.if_icmp .lt 8, 3) := by decide +kernel
theorem dX7_readRanked_14 : decode cX7_readRanked 14 = .ok (.aload_n 0, 1) := by decide +kernel
theorem dX7_readRanked_15 : decode cX7_readRanked 15 = .ok (.invokevirtual 184, 3) := by decide +kernel
theorem dX7_readRanked_18 : decode cX7_readRanked 18 = .ok (.return_, 1) := by decide +kernel
theorem dX7_readRanked_19 : decode cX7_readRanked 19 = .ok (.iload_n 1, 1) := by decide +kernel
theorem dX7_readRanked_20 : decode cX7_readRanked 20 = .ok (.iconst 2, 1) := by decide +kernel
theorem dX7_readRanked_21 : decode cX7_readRanked 21 = .ok (.if_icmp .ne 8, 3) := by decide +kernel
theorem dX7_readRanked_24 : decode cX7_readRanked 24 = .ok (.aload_n 0, 1) := by decide +kernel
theorem dX7_readRanked_25 : decode cX7_readRanked 25 = .ok (.invokevirtual 187, 3) := by decide +kernel
theorem dX7_readRanked_28 : decode cX7_readRanked 28 = .ok (.return_, 1) := by decide +kernel
theorem dX7_readRanked_29 : decode cX7_readRanked 29 = .ok (.aload_n 0, 1) := by decide +kernel
theorem dX7_readRanked_30 : decode cX7_readRanked 30 = .ok (.iload_n 1, 1) := by decide +kernel
theorem dX7_readRanked_31 : decode cX7_readRanked 31 = .ok (.iconst 1, 1) := by decide +kernel
theorem dX7_readRanked_32 : decode cX7_readRanked 32 = .ok (.iadd, 1) := by decide +kernel
theorem dX7_readRanked_33 : decode cX7_readRanked 33 = .ok (.invokevirtual 178, 3) := by decide +kernel
theorem dX7_readRanked_36 : decode cX7_readRanked 36 = .ok (.iload_n 1, 1) := by decide +kernel
theorem dX7_readRanked_37 : decode cX7_readRanked 37 = .ok (.iconst 3, 1) := by decide +kernel
theorem dX7_readRanked_38 : decode cX7_readRanked 38 = .ok (.if_icmp .ne 7, 3) := by decide +kernel
theorem dX7_readRanked_41 : decode cX7_readRanked 41 = .ok (.iconst 1, 1) := by decide +kernel
theorem dX7_readRanked_42 : decode cX7_readRanked 42 = .ok (.goto 6, 3) := by decide +kernel
theorem dX7_readRanked_45 : decode cX7_readRanked 45 = .ok (.sipush 700, 3) := by decide +kernel
theorem dX7_readRanked_48 : decode cX7_readRanked 48 = .ok (.istore_n 2, 1) := by decide +kernel
theorem dX7_readRanked_49 : decode cX7_readRanked 49 = .ok (.iconst 0, 1) := by decide +kernel
theorem dX7_readRanked_50 : decode cX7_readRanked 50 = .ok (.istore_n 3, 1) := by decide +kernel
theorem dX7_readRanked_51 : decode cX7_readRanked 51 = .ok (.iload_n 3, 1) := by decide +kernel
theorem dX7_readRanked_52 : decode cX7_readRanked 52 = .ok (.iload_n 2, 1) := by decide +kernel
theorem dX7_readRanked_53 : decode cX7_readRanked 53 = .ok (.if_icmp .ge 63, 3) := by decide +kernel
theorem dX7_readRanked_56 : decode cX7_readRanked 56 = .ok (.aload_n 0, 1) := by decide +kernel
theorem dX7_readRanked_57 : decode cX7_readRanked 57 = .ok (.getfield 29, 3) := by decide +kernel
theorem dX7_readRanked_60 : decode cX7_readRanked 60 = .ok (.ifCond .ne 56, 3) := by decide +kernel
theorem dX7_readRanked_63 : decode cX7_readRanked 63 = .ok (.aload_n 0, 1) := by decide +kernel
theorem dX7_readRanked_64 : decode cX7_readRanked 64 = .ok (.getfield 12, 3) := by decide +kernel
theorem dX7_readRanked_67 : decode cX7_readRanked 67 = .ok (.invokevirtual 55, 3) := by decide +kernel
theorem dX7_readRanked_70 : decode cX7_readRanked 70 = .ok (.invokestatic 190, 3) := by decide +kernel
theorem dX7_readRanked_73 : decode cX7_readRanked 73 = .ok (.iload_n 1, 1) := by decide +kernel
theorem dX7_readRanked_74 : decode cX7_readRanked 74 = .ok (.if_icmp .ne 42, 3) := by decide +kernel
theorem dX7_readRanked_77 : decode cX7_readRanked 77 = .ok (.aload_n 0, 1) := by decide +kernel
theorem dX7_readRanked_78 : decode cX7_readRanked 78 = .ok (.getfield 12, 3) := by decide +kernel
theorem dX7_readRanked_81 : decode cX7_readRanked 81 = .ok (.invokevirtual 55, 3) := by decide +kernel
theorem dX7_readRanked_84 : decode cX7_readRanked 84 = .ok (.istore 4, 2) := by decide +kernel
theorem dX7_readRanked_86 : decode cX7_readRanked 86 = .ok (.aload_n 0, 1) := by decide +kernel
theorem dX7_readRanked_87 : decode cX7_readRanked 87 = .ok (.invokevirtual 193, 3) := by decide +kernel
theorem dX7_readRanked_90 : decode cX7_readRanked 90 = .ok (.aload_n 0, 1) := by decide +kernel
theorem dX7_readRanked_91 : decode cX7_readRanked 91 = .ok (.iload_n 1, 1) := by decide +kernel
theorem dX7_readRanked_92 : decode cX7_readRanked 92 = .ok (.iconst 1, 1) := by decide +kernel
theorem dX7_readRanked_93 : decode cX7_readRanked 93 = .ok (.iadd, 1) := by decide +kernel
theorem dX7_readRanked_94 : decode cX7_readRanked 94 = .ok (.invokevirtual 178, 3) := by decide +kernel
theorem dX7_readRanked_97 : decode cX7_readRanked 97 = .ok (.aload_n 0, 1) := by decide +kernel
theorem dX7_readRanked_98 : decode cX7_readRanked 98 = .ok (.getfield 21, 3) := by decide +kernel
theorem dX7_readRanked_101 : decode cX7_readRanked 101 = .ok (.getfield 163, 3) := by decide +kernel
theorem dX7_readRanked_104 : decode cX7_readRanked 104 = .ok (.iload 4, 2) := by decide +kernel
theorem dX7_readRanked_106 : decode cX7_readRanked 106 = .ok (.iconst 0, 1) := by decide +kernel
theorem dX7_readRanked_107 : decode cX7_readRanked 107 = .ok (.invokevirtual 196, 3) := by decide +kernel
theorem dX7_readRanked_110 : decode cX7_readRanked 110 = .ok (.iinc 3 1, 3) := by decide +kernel
theorem dX7_readRanked_113 : decode cX7_readRanked 113 = .ok (.goto (-62), 3) := by decide +kernel
theorem dX7_readRanked_116 : decode cX7_readRanked 116 = .ok (.return_, 1) := by decide +kernel
theorem dX7_rankOf_0 : decode cX7_rankOf 0 = .ok (.iload_n 0, 1) := by decide +kernel
theorem dX7_rankOf_1 : decode cX7_rankOf 1 = .ok (.tableswitch 125 12 36 #[115, 117, 125, 125, 125, 125, 125, 125, 125, 125, 125, 125, 125, 125, 125, 121, 121, 123, 123, 119, 119, 119, 119, 119, 119], 115) := by decide +kernel
theorem dX7_rankOf_116 : decode cX7_rankOf 116 = .ok (.iconst 0, 1) := by decide +kernel
theorem dX7_rankOf_117 : decode cX7_rankOf 117 = .ok (.ireturn, 1) := by decide +kernel
theorem dX7_rankOf_118 : decode cX7_rankOf 118 = .ok (.iconst 1, 1) := by decide +kernel
theorem dX7_rankOf_119 : decode cX7_rankOf 119 = .ok (.ireturn, 1) := by decide +kernel
theorem dX7_rankOf_120 : decode cX7_rankOf 120 = .ok (.iconst 3, 1) := by decide +kernel
theorem dX7_rankOf_121 : decode cX7_rankOf 121 = .ok (.ireturn, 1) := by decide +kernel
theorem dX7_rankOf_122 : decode cX7_rankOf 122 = .ok (.iconst 4, 1) := by decide +kernel
theorem dX7_rankOf_123 : decode cX7_rankOf 123 = .ok (.ireturn, 1) := by decide +kernel
theorem dX7_rankOf_124 : decode cX7_rankOf 124 = .ok (.iconst 5, 1) := by decide +kernel
theorem dX7_rankOf_125 : decode cX7_rankOf 125 = .ok (.ireturn, 1) := by decide +kernel
theorem dX7_rankOf_126 : decode cX7_rankOf 126 = .ok (.iconst (-1), 1) := by decide +kernel
theorem dX7_rankOf_127 : decode cX7_rankOf 127 = .ok (.ireturn, 1) := by decide +kernel
theorem dX7_readDenied_0 : decode cX7_readDenied 0 = .ok (.iconst 0, 1) := by decide +kernel
theorem dX7_readDenied_1 : decode cX7_readDenied 1 = .ok (.istore_n 1, 1) := by decide +kernel
theorem dX7_readDenied_2 : decode cX7_readDenied 2 = .ok (.iload_n 1, 1) := by decide +kernel
theorem dX7_readDenied_3 : decode cX7_readDenied 3 = .ok (.sipush 700, 3) := by decide +kernel
theorem dX7_readDenied_6 : decode cX7_readDenied 6 = .ok (.if_icmp .ge 32, 3) := by decide +kernel
theorem dX7_readDenied_9 : decode cX7_readDenied 9 = .ok (.aload_n 0, 1) := by decide +kernel
theorem dX7_readDenied_10 : decode cX7_readDenied 10 = .ok (.getfield 29, 3) := by decide +kernel
theorem dX7_readDenied_13 : decode cX7_readDenied 13 = .ok (.ifCond .ne 25, 3) := by decide +kernel
theorem dX7_readDenied_16 : decode cX7_readDenied 16 = .ok (.aload_n 0, 1) := by decide +kernel
theorem dX7_readDenied_17 : decode cX7_readDenied 17 = .ok (.getfield 12, 3) := by decide +kernel
theorem dX7_readDenied_20 : decode cX7_readDenied 20 = .ok (.invokevirtual 55, 3) := by decide +kernel
theorem dX7_readDenied_23 : decode cX7_readDenied 23 = .ok (.bipush 14, 2) := by decide +kernel
theorem dX7_readDenied_25 : decode cX7_readDenied 25 = .ok (.if_icmp .ne 13, 3) := by decide +kernel
theorem dX7_readDenied_28 : decode cX7_readDenied 28 = .ok (.aload_n 0, 1) := by decide +kernel
theorem dX7_readDenied_29 : decode cX7_readDenied 29 = .ok (.invokevirtual 193, 3) := by decide +kernel
theorem dX7_readDenied_32 : decode cX7_readDenied 32 = .ok (.iinc 1 1, 3) := by decide +kernel
theorem dX7_readDenied_35 : decode cX7_readDenied 35 = .ok (.goto (-33), 3) := by decide +kernel
theorem dX7_readDenied_38 : decode cX7_readDenied 38 = .ok (.aload_n 0, 1) := by decide +kernel
theorem dX7_readDenied_39 : decode cX7_readDenied 39 = .ok (.iconst 3, 1) := by decide +kernel
theorem dX7_readDenied_40 : decode cX7_readDenied 40 = .ok (.invokevirtual 178, 3) := by decide +kernel
theorem dX7_readDenied_43 : decode cX7_readDenied 43 = .ok (.iconst 0, 1) := by decide +kernel
theorem dX7_readDenied_44 : decode cX7_readDenied 44 = .ok (.istore_n 2, 1) := by decide +kernel
theorem dX7_readDenied_45 : decode cX7_readDenied 45 = .ok (.iload_n 2, 1) := by decide +kernel
theorem dX7_readDenied_46 : decode cX7_readDenied 46 = .ok (.iload_n 1, 1) := by decide +kernel
theorem dX7_readDenied_47 : decode cX7_readDenied 47 = .ok (.if_icmp .ge 22, 3) := by decide +kernel
theorem dX7_readDenied_50 : decode cX7_readDenied 50 = .ok (.aload_n 0, 1) := by decide +kernel
theorem dX7_readDenied_51 : decode cX7_readDenied 51 = .ok (.getfield 21, 3) := by decide +kernel
theorem dX7_readDenied_54 : decode cX7_readDenied 54 = .ok (.getfield 163, 3) := by decide +kernel
theorem dX7_readDenied_57 : decode cX7_readDenied 57 = .ok (.bipush 14, 2) := by decide +kernel
theorem dX7_readDenied_59 : decode cX7_readDenied 59 = .ok (.iconst 0, 1) := by decide +kernel
theorem dX7_readDenied_60 : decode cX7_readDenied 60 = .ok (.invokevirtual 196, 3) := by decide +kernel
theorem dX7_readDenied_63 : decode cX7_readDenied 63 = .ok (.iinc 2 1, 3) := by decide +kernel
theorem dX7_readDenied_66 : decode cX7_readDenied 66 = .ok (.goto (-21), 3) := by decide +kernel
theorem dX7_readDenied_69 : decode cX7_readDenied 69 = .ok (.return_, 1) := by decide +kernel
theorem dX7_readPart_0 : decode cX7_readPart 0 = .ok (.aload_n 0, 1) := by decide +kernel
theorem dX7_readPart_1 : decode cX7_readPart 1 = .ok (.getfield 12, 3) := by decide +kernel
theorem dX7_readPart_4 : decode cX7_readPart 4 = .ok (.invokevirtual 55, 3) := by decide +kernel
theorem dX7_readPart_7 : decode cX7_readPart 7 = .ok (.istore_n 1, 1) := by decide +kernel
theorem dX7_readPart_8 : decode cX7_readPart 8 = .ok (.aload_n 0, 1) := by decide +kernel
theorem dX7_readPart_9 : decode cX7_readPart 9 = .ok (.getfield 12, 3) := by decide +kernel
theorem dX7_readPart_12 : decode cX7_readPart 12 = .ok (.invokevirtual 198, 3) := by decide +kernel
theorem dX7_readPart_15 : decode cX7_readPart 15 = .ok (.istore_n 2, 1) := by decide +kernel
theorem dX7_readPart_16 : decode cX7_readPart 16 = .ok (.iload_n 1, 1) := by decide +kernel
theorem dX7_readPart_17 : decode cX7_readPart 17 = .ok (.bipush 25, 2) := by decide +kernel
theorem dX7_readPart_19 : decode cX7_readPart 19 = .ok (.if_icmp .ne 12, 3) := by decide +kernel
theorem dX7_readPart_22 : decode cX7_readPart 22 = .ok (.aload_n 0, 1) := by decide +kernel
theorem dX7_readPart_23 : decode cX7_readPart 23 = .ok (.getfield 172, 3) := by decide +kernel
theorem dX7_readPart_26 : decode cX7_readPart 26 = .ok (.bipush 8, 2) := by decide +kernel
theorem dX7_readPart_28 : decode cX7_readPart 28 = .ok (.if_icmp .ge 16, 3) := by decide +kernel
theorem dX7_readPart_31 : decode cX7_readPart 31 = .ok (.iload_n 1, 1) := by decide +kernel
theorem dX7_readPart_32 : decode cX7_readPart 32 = .ok (.bipush 23, 2) := by decide +kernel
theorem dX7_readPart_34 : decode cX7_readPart 34 = .ok (.if_icmp .ne 25, 3) := by decide +kernel
theorem dX7_readPart_37 : decode cX7_readPart 37 = .ok (.iload_n 2, 1) := by decide +kernel
theorem dX7_readPart_38 : decode cX7_readPart 38 = .ok (.sipush 9999, 3) := by decide +kernel
theorem dX7_readPart_41 : decode cX7_readPart 41 = .ok (.if_icmp .le 18, 3) := by decide +kernel
theorem dX7_readPart_44 : decode cX7_readPart 44 = .ok (.aload_n 0, 1) := by decide +kernel
theorem dX7_readPart_45 : decode cX7_readPart 45 = .ok (.iconst 2, 1) := by decide +kernel
theorem dX7_readPart_46 : decode cX7_readPart 46 = .ok (.aload_n 0, 1) := by decide +kernel
theorem dX7_readPart_47 : decode cX7_readPart 47 = .ok (.getfield 12, 3) := by decide +kernel
theorem dX7_readPart_50 : decode cX7_readPart 50 = .ok (.invokevirtual 62, 3) := by decide +kernel
theorem dX7_readPart_53 : decode cX7_readPart 53 = .ok (.invokevirtual 64, 3) := by decide +kernel
theorem dX7_readPart_56 : decode cX7_readPart 56 = .ok (.goto 99, 3) := by decide +kernel
theorem dX7_readPart_59 : decode cX7_readPart 59 = .ok (.iload_n 1, 1) := by decide +kernel
theorem dX7_readPart_60 : decode cX7_readPart 60 = .ok (.bipush 25, 2) := by decide +kernel
theorem dX7_readPart_62 : decode cX7_readPart 62 = .ok (.if_icmp .ne 44, 3) := by decide +kernel
theorem dX7_readPart_65 : decode cX7_readPart 65 = .ok (.aload_n 0, 1) := by decide +kernel
theorem dX7_readPart_66 : decode cX7_readPart 66 = .ok (.dup, 1) := by decide +kernel
theorem dX7_readPart_67 : decode cX7_readPart 67 = .ok (.getfield 172, 3) := by decide +kernel
theorem dX7_readPart_70 : decode cX7_readPart 70 = .ok (.iconst 1, 1) := by decide +kernel
theorem dX7_readPart_71 : decode cX7_readPart 71 = .ok (.iadd, 1) := by decide +kernel
theorem dX7_readPart_72 : decode cX7_readPart 72 = .ok (.putfield 172, 3) := by decide +kernel
theorem dX7_readPart_75 : decode cX7_readPart 75 = .ok (.aload_n 0, 1) := by decide +kernel
theorem dX7_readPart_76 : decode cX7_readPart 76 = .ok (.getfield 12, 3) := by decide +kernel
theorem dX7_readPart_79 : decode cX7_readPart 79 = .ok (.invokevirtual 72, 3) := by decide +kernel
theorem dX7_readPart_82 : decode cX7_readPart 82 = .ok (.aload_n 0, 1) := by decide +kernel
theorem dX7_readPart_83 : decode cX7_readPart 83 = .ok (.iconst 0, 1) := by decide +kernel
theorem dX7_readPart_84 : decode cX7_readPart 84 = .ok (.invokevirtual 178, 3) := by decide +kernel
theorem dX7_readPart_87 : decode cX7_readPart 87 = .ok (.aload_n 0, 1) := by decide +kernel
theorem dX7_readPart_88 : decode cX7_readPart 88 = .ok (.bipush 26, 2) := by decide +kernel
theorem dX7_readPart_90 : decode cX7_readPart 90 = .ok (.invokevirtual 102, 3) := by decide +kernel
theorem dX7_readPart_93 : decode cX7_readPart 93 = .ok (.aload_n 0, 1) := by decide +kernel
theorem dX7_readPart_94 : decode cX7_readPart 94 = .ok (.dup, 1) := by decide +kernel
theorem dX7_readPart_95 : decode cX7_readPart 95 = .ok (.getfield 172, 3) := by decide +kernel
theorem dX7_readPart_98 : decode cX7_readPart 98 = .ok (.iconst 1, 1) := by decide +kernel
theorem dX7_readPart_99 : decode cX7_readPart 99 = .ok (.isub, 1) := by decide +kernel
theorem dX7_readPart_100 : decode cX7_readPart 100 = .ok (.putfield 172, 3) := by decide +kernel
theorem dX7_readPart_103 : decode cX7_readPart 103 = .ok (.goto 52, 3) := by decide +kernel
theorem dX7_readPart_106 : decode cX7_readPart 106 = .ok (.iload_n 1, 1) := by decide +kernel
theorem dX7_readPart_107 : decode cX7_readPart 107 = .ok (.bipush 23, 2) := by decide +kernel
theorem dX7_readPart_109 : decode cX7_readPart 109 = .ok (.if_icmp .eq 15, 3) := by decide +kernel
theorem dX7_readPart_112 : decode cX7_readPart 112 = .ok (.iload_n 1, 1) := by decide +kernel
theorem dX7_readPart_113 : decode cX7_readPart 113 = .ok (.bipush 15, 2) := by decide +kernel
theorem dX7_readPart_115 : decode cX7_readPart 115 = .ok (.if_icmp .lt 28, 3) := by decide +kernel
theorem dX7_readPart_118 : decode cX7_readPart 118 = .ok (.iload_n 1, 1) := by decide +kernel
theorem dX7_readPart_119 : decode cX7_readPart 119 = .ok (.bipush 21, 2) := by decide +kernel
theorem dX7_readPart_121 : decode cX7_readPart 121 = .ok (.if_icmp .gt 22, 3) := by decide +kernel
theorem dX7_readPart_124 : decode cX7_readPart 124 = .ok (.aload_n 0, 1) := by decide +kernel
theorem dX7_readPart_125 : decode cX7_readPart 125 = .ok (.invokevirtual 193, 3) := by decide +kernel
theorem dX7_readPart_128 : decode cX7_readPart 128 = .ok (.aload_n 0, 1) := by decide +kernel
theorem dX7_readPart_129 : decode cX7_readPart 129 = .ok (.getfield 21, 3) := by decide +kernel
theorem dX7_readPart_132 : decode cX7_readPart 132 = .ok (.getfield 163, 3) := by decide +kernel
theorem dX7_readPart_135 : decode cX7_readPart 135 = .ok (.iload_n 1, 1) := by decide +kernel
theorem dX7_readPart_136 : decode cX7_readPart 136 = .ok (.iload_n 2, 1) := by decide +kernel
theorem dX7_readPart_137 : decode cX7_readPart 137 = .ok (.invokevirtual 196, 3) := by decide +kernel
theorem dX7_readPart_140 : decode cX7_readPart 140 = .ok (.goto 15, 3) := by decide +kernel
theorem dX7_readPart_143 : decode cX7_readPart 143 = .ok (.aload_n 0, 1) := by decide +kernel
theorem dX7_readPart_144 : decode cX7_readPart 144 = .ok (.iconst 1, 1) := by decide +kernel
theorem dX7_readPart_145 : decode cX7_readPart 145 = .ok (.aload_n 0, 1) := by decide +kernel
theorem dX7_readPart_146 : decode cX7_readPart 146 = .ok (.getfield 12, 3) := by decide +kernel
theorem dX7_readPart_149 : decode cX7_readPart 149 = .ok (.invokevirtual 62, 3) := by decide +kernel
theorem dX7_readPart_152 : decode cX7_readPart 152 = .ok (.invokevirtual 64, 3) := by decide +kernel
theorem dX7_readPart_155 : decode cX7_readPart 155 = .ok (.return_, 1) := by decide +kernel
theorem dX7_takeKnot_0 : decode cX7_takeKnot 0 = .ok (.aload_n 0, 1) := by decide +kernel
theorem dX7_takeKnot_1 : decode cX7_takeKnot 1 = .ok (.getfield 29, 3) := by decide +kernel
theorem dX7_takeKnot_4 : decode cX7_takeKnot 4 = .ok (.ifCond .eq 4, 3) := by decide +kernel
theorem dX7_takeKnot_7 : decode cX7_takeKnot 7 = .ok (.return_, 1) := by decide +kernel
theorem dX7_takeKnot_8 : decode cX7_takeKnot 8 = .ok (.aload_n 0, 1) := by decide +kernel
theorem dX7_takeKnot_9 : decode cX7_takeKnot 9 = .ok (.getfield 45, 3) := by decide +kernel
theorem dX7_takeKnot_12 : decode cX7_takeKnot 12 = .ok (.bipush 64, 2) := by decide +kernel
theorem dX7_takeKnot_14 : decode cX7_takeKnot 14 = .ok (.if_icmp .lt 16, 3) := by decide +kernel
theorem dX7_takeKnot_17 : decode cX7_takeKnot 17 = .ok (.aload_n 0, 1) := by decide +kernel
theorem dX7_takeKnot_18 : decode cX7_takeKnot 18 = .ok (.iconst 2, 1) := by decide +kernel
theorem dX7_takeKnot_19 : decode cX7_takeKnot 19 = .ok (.aload_n 0, 1) := by decide +kernel
theorem dX7_takeKnot_20 : decode cX7_takeKnot 20 = .ok (.getfield 12, 3) := by decide +kernel
theorem dX7_takeKnot_23 : decode cX7_takeKnot 23 = .ok (.invokevirtual 62, 3) := by decide +kernel
theorem dX7_takeKnot_26 : decode cX7_takeKnot 26 = .ok (.invokevirtual 64, 3) := by decide +kernel
theorem dX7_takeKnot_29 : decode cX7_takeKnot 29 = .ok (.return_, 1) := by decide +kernel
theorem dX7_takeKnot_30 : decode cX7_takeKnot 30 = .ok (.aload_n 0, 1) := by decide +kernel
theorem dX7_takeKnot_31 : decode cX7_takeKnot 31 = .ok (.dup, 1) := by decide +kernel
theorem dX7_takeKnot_32 : decode cX7_takeKnot 32 = .ok (.getfield 45, 3) := by decide +kernel
theorem dX7_takeKnot_35 : decode cX7_takeKnot 35 = .ok (.iconst 1, 1) := by decide +kernel
theorem dX7_takeKnot_36 : decode cX7_takeKnot 36 = .ok (.iadd, 1) := by decide +kernel
theorem dX7_takeKnot_37 : decode cX7_takeKnot 37 = .ok (.putfield 45, 3) := by decide +kernel
theorem dX7_takeKnot_40 : decode cX7_takeKnot 40 = .ok (.aload_n 0, 1) := by decide +kernel
theorem dX7_takeKnot_41 : decode cX7_takeKnot 41 = .ok (.getfield 12, 3) := by decide +kernel
theorem dX7_takeKnot_44 : decode cX7_takeKnot 44 = .ok (.invokevirtual 72, 3) := by decide +kernel
theorem dX7_takeKnot_47 : decode cX7_takeKnot 47 = .ok (.return_, 1) := by decide +kernel
theorem dX7_take_0 : decode cX7_take 0 = .ok (.aload_n 0, 1) := by decide +kernel
theorem dX7_take_1 : decode cX7_take 1 = .ok (.getfield 29, 3) := by decide +kernel
theorem dX7_take_4 : decode cX7_take 4 = .ok (.ifCond .eq 4, 3) := by decide +kernel
theorem dX7_take_7 : decode cX7_take 7 = .ok (.return_, 1) := by decide +kernel
theorem dX7_take_8 : decode cX7_take 8 = .ok (.aload_n 0, 1) := by decide +kernel
theorem dX7_take_9 : decode cX7_take 9 = .ok (.getfield 12, 3) := by decide +kernel
theorem dX7_take_12 : decode cX7_take 12 = .ok (.invokevirtual 55, 3) := by decide +kernel
theorem dX7_take_15 : decode cX7_take 15 = .ok (.iload_n 1, 1) := by decide +kernel
theorem dX7_take_16 : decode cX7_take 16 = .ok (.if_icmp .eq 16, 3) := by decide +kernel
theorem dX7_take_19 : decode cX7_take 19 = .ok (.aload_n 0, 1) := by decide +kernel
theorem dX7_take_20 : decode cX7_take 20 = .ok (.iconst 1, 1) := by decide +kernel
theorem dX7_take_21 : decode cX7_take 21 = .ok (.aload_n 0, 1) := by decide +kernel
theorem dX7_take_22 : decode cX7_take 22 = .ok (.getfield 12, 3) := by decide +kernel
theorem dX7_take_25 : decode cX7_take 25 = .ok (.invokevirtual 62, 3) := by decide +kernel
theorem dX7_take_28 : decode cX7_take 28 = .ok (.invokevirtual 64, 3) := by decide +kernel
theorem dX7_take_31 : decode cX7_take 31 = .ok (.return_, 1) := by decide +kernel
theorem dX7_take_32 : decode cX7_take 32 = .ok (.aload_n 0, 1) := by decide +kernel
theorem dX7_take_33 : decode cX7_take 33 = .ok (.getfield 12, 3) := by decide +kernel
theorem dX7_take_36 : decode cX7_take 36 = .ok (.invokevirtual 72, 3) := by decide +kernel
theorem dX7_take_39 : decode cX7_take 39 = .ok (.return_, 1) := by decide +kernel
theorem dX7_number_0 : decode cX7_number 0 = .ok (.aload_n 0, 1) := by decide +kernel
theorem dX7_number_1 : decode cX7_number 1 = .ok (.getfield 12, 3) := by decide +kernel
theorem dX7_number_4 : decode cX7_number 4 = .ok (.invokevirtual 62, 3) := by decide +kernel
theorem dX7_number_7 : decode cX7_number 7 = .ok (.istore_n 3, 1) := by decide +kernel
theorem dX7_number_8 : decode cX7_number 8 = .ok (.aload_n 0, 1) := by decide +kernel
theorem dX7_number_9 : decode cX7_number 9 = .ok (.getfield 12, 3) := by decide +kernel
theorem dX7_number_12 : decode cX7_number 12 = .ok (.invokevirtual 198, 3) := by decide +kernel
theorem dX7_number_15 : decode cX7_number 15 = .ok (.istore 4, 2) := by decide +kernel
theorem dX7_number_17 : decode cX7_number 17 = .ok (.aload_n 0, 1) := by decide +kernel
theorem dX7_number_18 : decode cX7_number 18 = .ok (.bipush 23, 2) := by decide +kernel
theorem dX7_number_20 : decode cX7_number 20 = .ok (.invokevirtual 102, 3) := by decide +kernel
theorem dX7_number_23 : decode cX7_number 23 = .ok (.iload 4, 2) := by decide +kernel
theorem dX7_number_25 : decode cX7_number 25 = .ok (.iload_n 1, 1) := by decide +kernel
theorem dX7_number_26 : decode cX7_number 26 = .ok (.if_icmp .lt 9, 3) := by decide +kernel
theorem dX7_number_29 : decode cX7_number 29 = .ok (.iload 4, 2) := by decide +kernel
theorem dX7_number_31 : decode cX7_number 31 = .ok (.iload_n 2, 1) := by decide +kernel
theorem dX7_number_32 : decode cX7_number 32 = .ok (.if_icmp .le 9, 3) := by decide +kernel
theorem dX7_number_35 : decode cX7_number 35 = .ok (.aload_n 0, 1) := by decide +kernel
theorem dX7_number_36 : decode cX7_number 36 = .ok (.iconst 2, 1) := by decide +kernel
theorem dX7_number_37 : decode cX7_number 37 = .ok (.iload_n 3, 1) := by decide +kernel
theorem dX7_number_38 : decode cX7_number 38 = .ok (.invokevirtual 64, 3) := by decide +kernel
theorem dX7_number_41 : decode cX7_number 41 = .ok (.aload_n 0, 1) := by decide +kernel
theorem dX7_number_42 : decode cX7_number 42 = .ok (.getfield 29, 3) := by decide +kernel
theorem dX7_number_45 : decode cX7_number 45 = .ok (.ifCond .ne 8, 3) := by decide +kernel
theorem dX7_number_48 : decode cX7_number 48 = .ok (.iload 4, 2) := by decide +kernel
theorem dX7_number_50 : decode cX7_number 50 = .ok (.goto 4, 3) := by decide +kernel
theorem dX7_number_53 : decode cX7_number 53 = .ok (.iconst 0, 1) := by decide +kernel
theorem dX7_number_54 : decode cX7_number 54 = .ok (.ireturn, 1) := by decide +kernel
theorem dX7_ownWord_0 : decode cX7_ownWord 0 = .ok (.aload_n 0, 1) := by decide +kernel
theorem dX7_ownWord_1 : decode cX7_ownWord 1 = .ok (.getfield 12, 3) := by decide +kernel
theorem dX7_ownWord_4 : decode cX7_ownWord 4 = .ok (.invokevirtual 198, 3) := by decide +kernel
theorem dX7_ownWord_7 : decode cX7_ownWord 7 = .ok (.istore_n 1, 1) := by decide +kernel
theorem dX7_ownWord_8 : decode cX7_ownWord 8 = .ok (.aload_n 0, 1) := by decide +kernel
theorem dX7_ownWord_9 : decode cX7_ownWord 9 = .ok (.bipush 22, 2) := by decide +kernel
theorem dX7_ownWord_11 : decode cX7_ownWord 11 = .ok (.invokevirtual 102, 3) := by decide +kernel
theorem dX7_ownWord_14 : decode cX7_ownWord 14 = .ok (.aload_n 0, 1) := by decide +kernel
theorem dX7_ownWord_15 : decode cX7_ownWord 15 = .ok (.getfield 29, 3) := by decide +kernel
theorem dX7_ownWord_18 : decode cX7_ownWord 18 = .ok (.ifCond .ne 7, 3) := by decide +kernel
theorem dX7_ownWord_21 : decode cX7_ownWord 21 = .ok (.iload_n 1, 1) := by decide +kernel
theorem dX7_ownWord_22 : decode cX7_ownWord 22 = .ok (.goto 4, 3) := by decide +kernel
theorem dX7_ownWord_25 : decode cX7_ownWord 25 = .ok (.iconst 0, 1) := by decide +kernel
theorem dX7_ownWord_26 : decode cX7_ownWord 26 = .ok (.ireturn, 1) := by decide +kernel
theorem dX7_toldPond_0 : decode cX7_toldPond 0 = .ok (.aload_n 0, 1) := by decide +kernel
theorem dX7_toldPond_1 : decode cX7_toldPond 1 = .ok (.getfield 12, 3) := by decide +kernel
theorem dX7_toldPond_4 : decode cX7_toldPond 4 = .ok (.invokevirtual 62, 3) := by decide +kernel
theorem dX7_toldPond_7 : decode cX7_toldPond 7 = .ok (.istore_n 1, 1) := by decide +kernel
theorem dX7_toldPond_8 : decode cX7_toldPond 8 = .ok (.aload_n 0, 1) := by decide +kernel
theorem dX7_toldPond_9 : decode cX7_toldPond 9 = .ok (.getfield 21, 3) := by decide +kernel
theorem dX7_toldPond_12 : decode cX7_toldPond 12 = .ok (.aload_n 0, 1) := by decide +kernel
theorem dX7_toldPond_13 : decode cX7_toldPond 13 = .ok (.invokevirtual 105, 3) := by decide +kernel
theorem dX7_toldPond_16 : decode cX7_toldPond 16 = .ok (.invokevirtual 108, 3) := by decide +kernel
theorem dX7_toldPond_19 : decode cX7_toldPond 19 = .ok (.istore_n 2, 1) := by decide +kernel
theorem dX7_toldPond_20 : decode cX7_toldPond 20 = .ok (.iload_n 2, 1) := by decide +kernel
theorem dX7_toldPond_21 : decode cX7_toldPond 21 = .ok (.iconst (-1), 1) := by decide +kernel
theorem dX7_toldPond_22 : decode cX7_toldPond 22 = .ok (.if_icmp .ne 9, 3) := by decide +kernel
theorem dX7_toldPond_25 : decode cX7_toldPond 25 = .ok (.aload_n 0, 1) := by decide +kernel
theorem dX7_toldPond_26 : decode cX7_toldPond 26 = .ok (.iconst 4, 1) := by decide +kernel
theorem dX7_toldPond_27 : decode cX7_toldPond 27 = .ok (.iload_n 1, 1) := by decide +kernel
theorem dX7_toldPond_28 : decode cX7_toldPond 28 = .ok (.invokevirtual 64, 3) := by decide +kernel
theorem dX7_toldPond_31 : decode cX7_toldPond 31 = .ok (.iload_n 2, 1) := by decide +kernel
theorem dX7_toldPond_32 : decode cX7_toldPond 32 = .ok (.ireturn, 1) := by decide +kernel
theorem dX8_init_0 : decode cX8_init 0 = .ok (.aload_n 0, 1) := by decide +kernel
theorem dX8_init_1 : decode cX8_init 1 = .ok (.invokespecial 3, 3) := by decide +kernel
theorem dX8_init_4 : decode cX8_init 4 = .ok (.aload_n 0, 1) := by decide +kernel
theorem dX8_init_5 : decode cX8_init 5 = .ok (.bipush 7, 2) := by decide +kernel
theorem dX8_init_7 : decode cX8_init 7 = .ok (.newarray .int, 2) := by decide +kernel
theorem dX8_init_9 : decode cX8_init 9 = .ok (.putfield 9, 3) := by decide +kernel
theorem dX8_init_12 : decode cX8_init 12 = .ok (.aload_n 0, 1) := by decide +kernel
theorem dX8_init_13 : decode cX8_init 13 = .ok (.bipush 8, 2) := by decide +kernel
theorem dX8_init_15 : decode cX8_init 15 = .ok (.newarray .int, 2) := by decide +kernel
theorem dX8_init_17 : decode cX8_init 17 = .ok (.putfield 15, 3) := by decide +kernel
theorem dX8_init_20 : decode cX8_init 20 = .ok (.aload_n 0, 1) := by decide +kernel
theorem dX8_init_21 : decode cX8_init 21 = .ok (.bipush 8, 2) := by decide +kernel
theorem dX8_init_23 : decode cX8_init 23 = .ok (.newarray .int, 2) := by decide +kernel
theorem dX8_init_25 : decode cX8_init 25 = .ok (.putfield 18, 3) := by decide +kernel
theorem dX8_init_28 : decode cX8_init 28 = .ok (.aload_n 0, 1) := by decide +kernel
theorem dX8_init_29 : decode cX8_init 29 = .ok (.aload_n 1, 1) := by decide +kernel
theorem dX8_init_30 : decode cX8_init 30 = .ok (.putfield 21, 3) := by decide +kernel
theorem dX8_init_33 : decode cX8_init 33 = .ok (.return_, 1) := by decide +kernel
theorem dX8_begin_0 : decode cX8_begin 0 = .ok (.aload_n 0, 1) := by decide +kernel
theorem dX8_begin_1 : decode cX8_begin 1 = .ok (.aload_n 1, 1) := by decide +kernel
theorem dX8_begin_2 : decode cX8_begin 2 = .ok (.putfield 21, 3) := by decide +kernel
theorem dX8_begin_5 : decode cX8_begin 5 = .ok (.iconst 0, 1) := by decide +kernel
theorem dX8_begin_6 : decode cX8_begin 6 = .ok (.istore_n 2, 1) := by decide +kernel
theorem dX8_begin_7 : decode cX8_begin 7 = .ok (.iload_n 2, 1) := by decide +kernel
theorem dX8_begin_8 : decode cX8_begin 8 = .ok (.bipush 7, 2) := by decide +kernel
theorem dX8_begin_10 : decode cX8_begin 10 = .ok (.if_icmp .ge 21, 3) := by decide +kernel
theorem dX8_begin_13 : decode cX8_begin 13 = .ok (.aload_n 0, 1) := by decide +kernel
theorem dX8_begin_14 : decode cX8_begin 14 = .ok (.getfield 9, 3) := by decide +kernel
theorem dX8_begin_17 : decode cX8_begin 17 = .ok (.iload_n 2, 1) := by decide +kernel
theorem dX8_begin_18 : decode cX8_begin 18 = .ok (.aload_n 1, 1) := by decide +kernel
theorem dX8_begin_19 : decode cX8_begin 19 = .ok (.getfield 25, 3) := by decide +kernel
theorem dX8_begin_22 : decode cX8_begin 22 = .ok (.iload_n 2, 1) := by decide +kernel
theorem dX8_begin_23 : decode cX8_begin 23 = .ok (.iaload, 1) := by decide +kernel
theorem dX8_begin_24 : decode cX8_begin 24 = .ok (.iastore, 1) := by decide +kernel
theorem dX8_begin_25 : decode cX8_begin 25 = .ok (.iinc 2 1, 3) := by decide +kernel
theorem dX8_begin_28 : decode cX8_begin 28 = .ok (.goto (-21), 3) := by decide +kernel
theorem dX8_begin_31 : decode cX8_begin 31 = .ok (.iconst 0, 1) := by decide +kernel
theorem dX8_begin_32 : decode cX8_begin 32 = .ok (.istore_n 2, 1) := by decide +kernel
theorem dX8_begin_33 : decode cX8_begin 33 = .ok (.iload_n 2, 1) := by decide +kernel
theorem dX8_begin_34 : decode cX8_begin 34 = .ok (.bipush 8, 2) := by decide +kernel
theorem dX8_begin_36 : decode cX8_begin 36 = .ok (.if_icmp .ge 23, 3) := by decide +kernel
theorem dX8_begin_39 : decode cX8_begin 39 = .ok (.aload_n 0, 1) := by decide +kernel
theorem dX8_begin_40 : decode cX8_begin 40 = .ok (.getfield 15, 3) := by decide +kernel
theorem dX8_begin_43 : decode cX8_begin 43 = .ok (.iload_n 2, 1) := by decide +kernel
theorem dX8_begin_44 : decode cX8_begin 44 = .ok (.iconst 0, 1) := by decide +kernel
theorem dX8_begin_45 : decode cX8_begin 45 = .ok (.iastore, 1) := by decide +kernel
theorem dX8_begin_46 : decode cX8_begin 46 = .ok (.aload_n 0, 1) := by decide +kernel
theorem dX8_begin_47 : decode cX8_begin 47 = .ok (.getfield 18, 3) := by decide +kernel
theorem dX8_begin_50 : decode cX8_begin 50 = .ok (.iload_n 2, 1) := by decide +kernel
theorem dX8_begin_51 : decode cX8_begin 51 = .ok (.iconst 0, 1) := by decide +kernel
theorem dX8_begin_52 : decode cX8_begin 52 = .ok (.iastore, 1) := by decide +kernel
theorem dX8_begin_53 : decode cX8_begin 53 = .ok (.iinc 2 1, 3) := by decide +kernel
theorem dX8_begin_56 : decode cX8_begin 56 = .ok (.goto (-23), 3) := by decide +kernel
theorem dX8_begin_59 : decode cX8_begin 59 = .ok (.aload_n 0, 1) := by decide +kernel
theorem dX8_begin_60 : decode cX8_begin 60 = .ok (.iconst 0, 1) := by decide +kernel
theorem dX8_begin_61 : decode cX8_begin 61 = .ok (.putfield 28, 3) := by decide +kernel
theorem dX8_begin_64 : decode cX8_begin 64 = .ok (.aload_n 0, 1) := by decide +kernel
theorem dX8_begin_65 : decode cX8_begin 65 = .ok (.iconst 0, 1) := by decide +kernel
theorem dX8_begin_66 : decode cX8_begin 66 = .ok (.putfield 32, 3) := by decide +kernel
theorem dX8_begin_69 : decode cX8_begin 69 = .ok (.aload_n 0, 1) := by decide +kernel
theorem dX8_begin_70 : decode cX8_begin 70 = .ok (.iconst 0, 1) := by decide +kernel
theorem dX8_begin_71 : decode cX8_begin 71 = .ok (.putfield 35, 3) := by decide +kernel
theorem dX8_begin_74 : decode cX8_begin 74 = .ok (.aload_n 0, 1) := by decide +kernel
theorem dX8_begin_75 : decode cX8_begin 75 = .ok (.aload_n 1, 1) := by decide +kernel
theorem dX8_begin_76 : decode cX8_begin 76 = .ok (.getfield 38, 3) := by decide +kernel
theorem dX8_begin_79 : decode cX8_begin 79 = .ok (.putfield 41, 3) := by decide +kernel
theorem dX8_begin_82 : decode cX8_begin 82 = .ok (.return_, 1) := by decide +kernel
theorem dX8_become_0 : decode cX8_become 0 = .ok (.aload_n 0, 1) := by decide +kernel
theorem dX8_become_1 : decode cX8_become 1 = .ok (.aload_n 1, 1) := by decide +kernel
theorem dX8_become_2 : decode cX8_become 2 = .ok (.getfield 21, 3) := by decide +kernel
theorem dX8_become_5 : decode cX8_become 5 = .ok (.putfield 21, 3) := by decide +kernel
theorem dX8_become_8 : decode cX8_become 8 = .ok (.iconst 0, 1) := by decide +kernel
theorem dX8_become_9 : decode cX8_become 9 = .ok (.istore_n 2, 1) := by decide +kernel
theorem dX8_become_10 : decode cX8_become 10 = .ok (.iload_n 2, 1) := by decide +kernel
theorem dX8_become_11 : decode cX8_become 11 = .ok (.bipush 7, 2) := by decide +kernel
theorem dX8_become_13 : decode cX8_become 13 = .ok (.if_icmp .ge 21, 3) := by decide +kernel
theorem dX8_become_16 : decode cX8_become 16 = .ok (.aload_n 0, 1) := by decide +kernel
theorem dX8_become_17 : decode cX8_become 17 = .ok (.getfield 9, 3) := by decide +kernel
theorem dX8_become_20 : decode cX8_become 20 = .ok (.iload_n 2, 1) := by decide +kernel
theorem dX8_become_21 : decode cX8_become 21 = .ok (.aload_n 1, 1) := by decide +kernel
theorem dX8_become_22 : decode cX8_become 22 = .ok (.getfield 9, 3) := by decide +kernel
theorem dX8_become_25 : decode cX8_become 25 = .ok (.iload_n 2, 1) := by decide +kernel
theorem dX8_become_26 : decode cX8_become 26 = .ok (.iaload, 1) := by decide +kernel
theorem dX8_become_27 : decode cX8_become 27 = .ok (.iastore, 1) := by decide +kernel
theorem dX8_become_28 : decode cX8_become 28 = .ok (.iinc 2 1, 3) := by decide +kernel
theorem dX8_become_31 : decode cX8_become 31 = .ok (.goto (-21), 3) := by decide +kernel
theorem dX8_become_34 : decode cX8_become 34 = .ok (.iconst 0, 1) := by decide +kernel
theorem dX8_become_35 : decode cX8_become 35 = .ok (.istore_n 2, 1) := by decide +kernel
theorem dX8_become_36 : decode cX8_become 36 = .ok (.iload_n 2, 1) := by decide +kernel
theorem dX8_become_37 : decode cX8_become 37 = .ok (.bipush 8, 2) := by decide +kernel
theorem dX8_become_39 : decode cX8_become 39 = .ok (.if_icmp .ge 33, 3) := by decide +kernel
theorem dX8_become_42 : decode cX8_become 42 = .ok (.aload_n 0, 1) := by decide +kernel
theorem dX8_become_43 : decode cX8_become 43 = .ok (.getfield 15, 3) := by decide +kernel
theorem dX8_become_46 : decode cX8_become 46 = .ok (.iload_n 2, 1) := by decide +kernel
theorem dX8_become_47 : decode cX8_become 47 = .ok (.aload_n 1, 1) := by decide +kernel
theorem dX8_become_48 : decode cX8_become 48 = .ok (.getfield 15, 3) := by decide +kernel
theorem dX8_become_51 : decode cX8_become 51 = .ok (.iload_n 2, 1) := by decide +kernel
theorem dX8_become_52 : decode cX8_become 52 = .ok (.iaload, 1) := by decide +kernel
theorem dX8_become_53 : decode cX8_become 53 = .ok (.iastore, 1) := by decide +kernel
theorem dX8_become_54 : decode cX8_become 54 = .ok (.aload_n 0, 1) := by decide +kernel
theorem dX8_become_55 : decode cX8_become 55 = .ok (.getfield 18, 3) := by decide +kernel
theorem dX8_become_58 : decode cX8_become 58 = .ok (.iload_n 2, 1) := by decide +kernel
theorem dX8_become_59 : decode cX8_become 59 = .ok (.aload_n 1, 1) := by decide +kernel
theorem dX8_become_60 : decode cX8_become 60 = .ok (.getfield 18, 3) := by decide +kernel
theorem dX8_become_63 : decode cX8_become 63 = .ok (.iload_n 2, 1) := by decide +kernel
theorem dX8_become_64 : decode cX8_become 64 = .ok (.iaload, 1) := by decide +kernel
theorem dX8_become_65 : decode cX8_become 65 = .ok (.iastore, 1) := by decide +kernel
theorem dX8_become_66 : decode cX8_become 66 = .ok (.iinc 2 1, 3) := by decide +kernel
theorem dX8_become_69 : decode cX8_become 69 = .ok (.goto (-33), 3) := by decide +kernel
theorem dX8_become_72 : decode cX8_become 72 = .ok (.aload_n 0, 1) := by decide +kernel
theorem dX8_become_73 : decode cX8_become 73 = .ok (.aload_n 1, 1) := by decide +kernel
theorem dX8_become_74 : decode cX8_become 74 = .ok (.getfield 28, 3) := by decide +kernel
theorem dX8_become_77 : decode cX8_become 77 = .ok (.putfield 28, 3) := by decide +kernel
theorem dX8_become_80 : decode cX8_become 80 = .ok (.aload_n 0, 1) := by decide +kernel
theorem dX8_become_81 : decode cX8_become 81 = .ok (.aload_n 1, 1) := by decide +kernel
theorem dX8_become_82 : decode cX8_become 82 = .ok (.getfield 32, 3) := by decide +kernel
theorem dX8_become_85 : decode cX8_become 85 = .ok (.putfield 32, 3) := by decide +kernel
theorem dX8_become_88 : decode cX8_become 88 = .ok (.aload_n 0, 1) := by decide +kernel
theorem dX8_become_89 : decode cX8_become 89 = .ok (.aload_n 1, 1) := by decide +kernel
theorem dX8_become_90 : decode cX8_become 90 = .ok (.getfield 35, 3) := by decide +kernel
theorem dX8_become_93 : decode cX8_become 93 = .ok (.putfield 35, 3) := by decide +kernel
theorem dX8_become_96 : decode cX8_become 96 = .ok (.aload_n 0, 1) := by decide +kernel
theorem dX8_become_97 : decode cX8_become 97 = .ok (.aload_n 1, 1) := by decide +kernel
theorem dX8_become_98 : decode cX8_become 98 = .ok (.getfield 41, 3) := by decide +kernel
theorem dX8_become_101 : decode cX8_become 101 = .ok (.putfield 41, 3) := by decide +kernel
theorem dX8_become_104 : decode cX8_become 104 = .ok (.return_, 1) := by decide +kernel
theorem dX8_raised_0 : decode cX8_raised 0 = .ok (.aload_n 0, 1) := by decide +kernel
theorem dX8_raised_1 : decode cX8_raised 1 = .ok (.getfield 21, 3) := by decide +kernel
theorem dX8_raised_4 : decode cX8_raised 4 = .ok (.getfield 44, 3) := by decide +kernel
theorem dX8_raised_7 : decode cX8_raised 7 = .ok (.iload_n 1, 1) := by decide +kernel
theorem dX8_raised_8 : decode cX8_raised 8 = .ok (.iaload, 1) := by decide +kernel
theorem dX8_raised_9 : decode cX8_raised 9 = .ok (.aload_n 0, 1) := by decide +kernel
theorem dX8_raised_10 : decode cX8_raised 10 = .ok (.getfield 21, 3) := by decide +kernel
theorem dX8_raised_13 : decode cX8_raised 13 = .ok (.getfield 47, 3) := by decide +kernel
theorem dX8_raised_16 : decode cX8_raised 16 = .ok (.iload_n 1, 1) := by decide +kernel
theorem dX8_raised_17 : decode cX8_raised 17 = .ok (.iaload, 1) := by decide +kernel
theorem dX8_raised_18 : decode cX8_raised 18 = .ok (.imul, 1) := by decide +kernel
theorem dX8_raised_19 : decode cX8_raised 19 = .ok (.aload_n 0, 1) := by decide +kernel
theorem dX8_raised_20 : decode cX8_raised 20 = .ok (.getfield 9, 3) := by decide +kernel
theorem dX8_raised_23 : decode cX8_raised 23 = .ok (.iload_n 1, 1) := by decide +kernel
theorem dX8_raised_24 : decode cX8_raised 24 = .ok (.iaload, 1) := by decide +kernel
theorem dX8_raised_25 : decode cX8_raised 25 = .ok (.iadd, 1) := by decide +kernel
theorem dX8_raised_26 : decode cX8_raised 26 = .ok (.ireturn, 1) := by decide +kernel
theorem dX8_higherBy_0 : decode cX8_higherBy 0 = .ok (.aload_n 0, 1) := by decide +kernel
theorem dX8_higherBy_1 : decode cX8_higherBy 1 = .ok (.getfield 21, 3) := by decide +kernel
theorem dX8_higherBy_4 : decode cX8_higherBy 4 = .ok (.getfield 47, 3) := by decide +kernel
theorem dX8_higherBy_7 : decode cX8_higherBy 7 = .ok (.iload_n 1, 1) := by decide +kernel
theorem dX8_higherBy_8 : decode cX8_higherBy 8 = .ok (.iaload, 1) := by decide +kernel
theorem dX8_higherBy_9 : decode cX8_higherBy 9 = .ok (.istore_n 3, 1) := by decide +kernel
theorem dX8_higherBy_10 : decode cX8_higherBy 10 = .ok (.aload_n 0, 1) := by decide +kernel
theorem dX8_higherBy_11 : decode cX8_higherBy 11 = .ok (.getfield 21, 3) := by decide +kernel
theorem dX8_higherBy_14 : decode cX8_higherBy 14 = .ok (.getfield 47, 3) := by decide +kernel
theorem dX8_higherBy_17 : decode cX8_higherBy 17 = .ok (.iload_n 2, 1) := by decide +kernel
theorem dX8_higherBy_18 : decode cX8_higherBy 18 = .ok (.iaload, 1) := by decide +kernel
theorem dX8_higherBy_19 : decode cX8_higherBy 19 = .ok (.istore 4, 2) := by decide +kernel
theorem dX8_higherBy_21 : decode cX8_higherBy 21 = .ok (.aload_n 0, 1) := by decide +kernel
theorem dX8_higherBy_22 : decode cX8_higherBy 22 = .ok (.getfield 21, 3) := by decide +kernel
theorem dX8_higherBy_25 : decode cX8_higherBy 25 = .ok (.getfield 44, 3) := by decide +kernel
theorem dX8_higherBy_28 : decode cX8_higherBy 28 = .ok (.iload_n 1, 1) := by decide +kernel
theorem dX8_higherBy_29 : decode cX8_higherBy 29 = .ok (.iaload, 1) := by decide +kernel
theorem dX8_higherBy_30 : decode cX8_higherBy 30 = .ok (.aload_n 0, 1) := by decide +kernel
theorem dX8_higherBy_31 : decode cX8_higherBy 31 = .ok (.getfield 21, 3) := by decide +kernel
theorem dX8_higherBy_34 : decode cX8_higherBy 34 = .ok (.getfield 44, 3) := by decide +kernel
theorem dX8_higherBy_37 : decode cX8_higherBy 37 = .ok (.iload_n 2, 1) := by decide +kernel
theorem dX8_higherBy_38 : decode cX8_higherBy 38 = .ok (.iaload, 1) := by decide +kernel
theorem dX8_higherBy_39 : decode cX8_higherBy 39 = .ok (.isub, 1) := by decide +kernel
theorem dX8_higherBy_40 : decode cX8_higherBy 40 = .ok (.iload_n 3, 1) := by decide +kernel
theorem dX8_higherBy_41 : decode cX8_higherBy 41 = .ok (.imul, 1) := by decide +kernel
theorem dX8_higherBy_42 : decode cX8_higherBy 42 = .ok (.iload 4, 2) := by decide +kernel
theorem dX8_higherBy_44 : decode cX8_higherBy 44 = .ok (.imul, 1) := by decide +kernel
theorem dX8_higherBy_45 : decode cX8_higherBy 45 = .ok (.aload_n 0, 1) := by decide +kernel
theorem dX8_higherBy_46 : decode cX8_higherBy 46 = .ok (.getfield 9, 3) := by decide +kernel
theorem dX8_higherBy_49 : decode cX8_higherBy 49 = .ok (.iload_n 1, 1) := by decide +kernel
theorem dX8_higherBy_50 : decode cX8_higherBy 50 = .ok (.iaload, 1) := by decide +kernel
theorem dX8_higherBy_51 : decode cX8_higherBy 51 = .ok (.iload 4, 2) := by decide +kernel
theorem dX8_higherBy_53 : decode cX8_higherBy 53 = .ok (.imul, 1) := by decide +kernel
theorem dX8_higherBy_54 : decode cX8_higherBy 54 = .ok (.iadd, 1) := by decide +kernel
theorem dX8_higherBy_55 : decode cX8_higherBy 55 = .ok (.aload_n 0, 1) := by decide +kernel
theorem dX8_higherBy_56 : decode cX8_higherBy 56 = .ok (.getfield 9, 3) := by decide +kernel
theorem dX8_higherBy_59 : decode cX8_higherBy 59 = .ok (.iload_n 2, 1) := by decide +kernel
theorem dX8_higherBy_60 : decode cX8_higherBy 60 = .ok (.iaload, 1) := by decide +kernel
theorem dX8_higherBy_61 : decode cX8_higherBy 61 = .ok (.iload_n 3, 1) := by decide +kernel
theorem dX8_higherBy_62 : decode cX8_higherBy 62 = .ok (.imul, 1) := by decide +kernel
theorem dX8_higherBy_63 : decode cX8_higherBy 63 = .ok (.isub, 1) := by decide +kernel
theorem dX8_higherBy_64 : decode cX8_higherBy 64 = .ok (.ireturn, 1) := by decide +kernel
theorem dX8_isAtLeast_0 : decode cX8_isAtLeast 0 = .ok (.aload_n 0, 1) := by decide +kernel
theorem dX8_isAtLeast_1 : decode cX8_isAtLeast 1 = .ok (.iload_n 1, 1) := by decide +kernel
theorem dX8_isAtLeast_2 : decode cX8_isAtLeast 2 = .ok (.invokevirtual 50, 3) := by decide +kernel
theorem dX8_isAtLeast_5 : decode cX8_isAtLeast 5 = .ok (.iload_n 2, 1) := by decide +kernel
theorem dX8_isAtLeast_6 : decode cX8_isAtLeast 6 = .ok (.aload_n 0, 1) := by decide +kernel
theorem dX8_isAtLeast_7 : decode cX8_isAtLeast 7 = .ok (.getfield 21, 3) := by decide +kernel
theorem dX8_isAtLeast_10 : decode cX8_isAtLeast 10 = .ok (.getfield 47, 3) := by decide +kernel
theorem dX8_isAtLeast_13 : decode cX8_isAtLeast 13 = .ok (.iload_n 1, 1) := by decide +kernel
theorem dX8_isAtLeast_14 : decode cX8_isAtLeast 14 = .ok (.iaload, 1) := by decide +kernel
theorem dX8_isAtLeast_15 : decode cX8_isAtLeast 15 = .ok (.imul, 1) := by decide +kernel
theorem dX8_isAtLeast_16 : decode cX8_isAtLeast 16 = .ok (.if_icmp .lt 7, 3) := by decide +kernel
theorem dX8_isAtLeast_19 : decode cX8_isAtLeast 19 = .ok (.iconst 1, 1) := by decide +kernel
theorem dX8_isAtLeast_20 : decode cX8_isAtLeast 20 = .ok (.goto 4, 3) := by decide +kernel
theorem dX8_isAtLeast_23 : decode cX8_isAtLeast 23 = .ok (.iconst 0, 1) := by decide +kernel
theorem dX8_isAtLeast_24 : decode cX8_isAtLeast 24 = .ok (.ireturn, 1) := by decide +kernel
theorem dX8_isAtMost_0 : decode cX8_isAtMost 0 = .ok (.aload_n 0, 1) := by decide +kernel
theorem dX8_isAtMost_1 : decode cX8_isAtMost 1 = .ok (.iload_n 1, 1) := by decide +kernel
theorem dX8_isAtMost_2 : decode cX8_isAtMost 2 = .ok (.invokevirtual 50, 3) := by decide +kernel
theorem dX8_isAtMost_5 : decode cX8_isAtMost 5 = .ok (.iload_n 2, 1) := by decide +kernel
theorem dX8_isAtMost_6 : decode cX8_isAtMost 6 = .ok (.aload_n 0, 1) := by decide +kernel
theorem dX8_isAtMost_7 : decode cX8_isAtMost 7 = .ok (.getfield 21, 3) := by decide +kernel
theorem dX8_isAtMost_10 : decode cX8_isAtMost 10 = .ok (.getfield 47, 3) := by decide +kernel
theorem dX8_isAtMost_13 : decode cX8_isAtMost 13 = .ok (.iload_n 1, 1) := by decide +kernel
theorem dX8_isAtMost_14 : decode cX8_isAtMost 14 = .ok (.iaload, 1) := by decide +kernel
theorem dX8_isAtMost_15 : decode cX8_isAtMost 15 = .ok (.imul, 1) := by decide +kernel
theorem dX8_isAtMost_16 : decode cX8_isAtMost 16 = .ok (.if_icmp .gt 7, 3) := by decide +kernel
theorem dX8_isAtMost_19 : decode cX8_isAtMost 19 = .ok (.iconst 1, 1) := by decide +kernel
theorem dX8_isAtMost_20 : decode cX8_isAtMost 20 = .ok (.goto 4, 3) := by decide +kernel
theorem dX8_isAtMost_23 : decode cX8_isAtMost 23 = .ok (.iconst 0, 1) := by decide +kernel
theorem dX8_isAtMost_24 : decode cX8_isAtMost 24 = .ok (.ireturn, 1) := by decide +kernel
theorem dX8_isJammed_0 : decode cX8_isJammed 0 = .ok (.aload_n 0, 1) := by decide +kernel
theorem dX8_isJammed_1 : decode cX8_isJammed 1 = .ok (.getfield 28, 3) := by decide +kernel
theorem dX8_isJammed_4 : decode cX8_isJammed 4 = .ok (.iload_n 1, 1) := by decide +kernel
theorem dX8_isJammed_5 : decode cX8_isJammed 5 = .ok (.ishr, 1) := by decide +kernel
theorem dX8_isJammed_6 : decode cX8_isJammed 6 = .ok (.iconst 1, 1) := by decide +kernel
theorem dX8_isJammed_7 : decode cX8_isJammed 7 = .ok (.iand, 1) := by decide +kernel
theorem dX8_isJammed_8 : decode cX8_isJammed 8 = .ok (.iconst 1, 1) := by decide +kernel
theorem dX8_isJammed_9 : decode cX8_isJammed 9 = .ok (.if_icmp .ne 7, 3) := by decide +kernel
theorem dX8_isJammed_12 : decode cX8_isJammed 12 = .ok (.iconst 1, 1) := by decide +kernel
theorem dX8_isJammed_13 : decode cX8_isJammed 13 = .ok (.goto 4, 3) := by decide +kernel
theorem dX8_isJammed_16 : decode cX8_isJammed 16 = .ok (.iconst 0, 1) := by decide +kernel
theorem dX8_isJammed_17 : decode cX8_isJammed 17 = .ok (.ireturn, 1) := by decide +kernel
theorem dX8_giver_0 : decode cX8_giver 0 = .ok (.aload_n 0, 1) := by decide +kernel
theorem dX8_giver_1 : decode cX8_giver 1 = .ok (.getfield 21, 3) := by decide +kernel
theorem dX8_giver_4 : decode cX8_giver 4 = .ok (.getfield 54, 3) := by decide +kernel
theorem dX8_giver_7 : decode cX8_giver 7 = .ok (.iload_n 1, 1) := by decide +kernel
theorem dX8_giver_8 : decode cX8_giver 8 = .ok (.iaload, 1) := by decide +kernel
theorem dX8_giver_9 : decode cX8_giver 9 = .ok (.istore_n 2, 1) := by decide +kernel
theorem dX8_giver_10 : decode cX8_giver 10 = .ok (.aload_n 0, 1) := by decide +kernel
theorem dX8_giver_11 : decode cX8_giver 11 = .ok (.getfield 21, 3) := by decide +kernel
theorem dX8_giver_14 : decode cX8_giver 14 = .ok (.getfield 57, 3) := by decide +kernel
theorem dX8_giver_17 : decode cX8_giver 17 = .ok (.iload_n 1, 1) := by decide +kernel
theorem dX8_giver_18 : decode cX8_giver 18 = .ok (.iaload, 1) := by decide +kernel
theorem dX8_giver_19 : decode cX8_giver 19 = .ok (.istore_n 3, 1) := by decide +kernel
theorem dX8_giver_20 : decode cX8_giver 20 = .ok (.aload_n 0, 1) := by decide +kernel
theorem dX8_giver_21 : decode cX8_giver 21 = .ok (.iload_n 2, 1) := by decide +kernel
theorem dX8_giver_22 : decode cX8_giver 22 = .ok (.iload_n 3, 1) := by decide +kernel
theorem dX8_giver_23 : decode cX8_giver 23 = .ok (.invokevirtual 60, 3) := by decide +kernel
theorem dX8_giver_26 : decode cX8_giver 26 = .ok (.ifCond .lt 7, 3) := by decide +kernel
theorem dX8_giver_29 : decode cX8_giver 29 = .ok (.iload_n 2, 1) := by decide +kernel
theorem dX8_giver_30 : decode cX8_giver 30 = .ok (.goto 4, 3) := by decide +kernel
theorem dX8_giver_33 : decode cX8_giver 33 = .ok (.iload_n 3, 1) := by decide +kernel
theorem dX8_giver_34 : decode cX8_giver 34 = .ok (.ireturn, 1) := by decide +kernel
theorem dX8_movable_0 : decode cX8_movable 0 = .ok (.aload_n 0, 1) := by decide +kernel
theorem dX8_movable_1 : decode cX8_movable 1 = .ok (.iload_n 1, 1) := by decide +kernel
theorem dX8_movable_2 : decode cX8_movable 2 = .ok (.invokevirtual 64, 3) := by decide +kernel
theorem dX8_movable_5 : decode cX8_movable 5 = .ok (.istore_n 2, 1) := by decide +kernel
theorem dX8_movable_6 : decode cX8_movable 6 = .ok (.aload_n 0, 1) := by decide +kernel
theorem dX8_movable_7 : decode cX8_movable 7 = .ok (.getfield 21, 3) := by decide +kernel
theorem dX8_movable_10 : decode cX8_movable 10 = .ok (.getfield 54, 3) := by decide +kernel
theorem dX8_movable_13 : decode cX8_movable 13 = .ok (.iload_n 1, 1) := by decide +kernel
theorem dX8_movable_14 : decode cX8_movable 14 = .ok (.iaload, 1) := by decide +kernel
theorem dX8_movable_15 : decode cX8_movable 15 = .ok (.aload_n 0, 1) := by decide +kernel
theorem dX8_movable_16 : decode cX8_movable 16 = .ok (.getfield 21, 3) := by decide +kernel
theorem dX8_movable_19 : decode cX8_movable 19 = .ok (.getfield 57, 3) := by decide +kernel
theorem dX8_movable_22 : decode cX8_movable 22 = .ok (.iload_n 1, 1) := by decide +kernel
theorem dX8_movable_23 : decode cX8_movable 23 = .ok (.iaload, 1) := by decide +kernel
theorem dX8_movable_24 : decode cX8_movable 24 = .ok (.iadd, 1) := by decide +kernel
theorem dX8_movable_25 : decode cX8_movable 25 = .ok (.iload_n 2, 1) := by decide +kernel
theorem dX8_movable_26 : decode cX8_movable 26 = .ok (.isub, 1) := by decide +kernel
theorem dX8_movable_27 : decode cX8_movable 27 = .ok (.istore_n 3, 1) := by decide +kernel
theorem dX8_movable_28 : decode cX8_movable 28 = .ok (.aload_n 0, 1) := by decide +kernel
theorem dX8_movable_29 : decode cX8_movable 29 = .ok (.getfield 21, 3) := by decide +kernel
theorem dX8_movable_32 : decode cX8_movable 32 = .ok (.getfield 47, 3) := by decide +kernel
theorem dX8_movable_35 : decode cX8_movable 35 = .ok (.iload_n 2, 1) := by decide +kernel
theorem dX8_movable_36 : decode cX8_movable 36 = .ok (.iaload, 1) := by decide +kernel
theorem dX8_movable_37 : decode cX8_movable 37 = .ok (.aload_n 0, 1) := by decide +kernel
theorem dX8_movable_38 : decode cX8_movable 38 = .ok (.getfield 21, 3) := by decide +kernel
theorem dX8_movable_41 : decode cX8_movable 41 = .ok (.getfield 47, 3) := by decide +kernel
theorem dX8_movable_44 : decode cX8_movable 44 = .ok (.iload_n 3, 1) := by decide +kernel
theorem dX8_movable_45 : decode cX8_movable 45 = .ok (.iaload, 1) := by decide +kernel
theorem dX8_movable_46 : decode cX8_movable 46 = .ok (.iadd, 1) := by decide +kernel
theorem dX8_movable_47 : decode cX8_movable 47 = .ok (.istore 4, 2) := by decide +kernel
theorem dX8_movable_49 : decode cX8_movable 49 = .ok (.iload 4, 2) := by decide +kernel
theorem dX8_movable_51 : decode cX8_movable 51 = .ok (.ifCond .le 24, 3) := by decide +kernel
theorem dX8_movable_54 : decode cX8_movable 54 = .ok (.aload_n 0, 1) := by decide +kernel
theorem dX8_movable_55 : decode cX8_movable 55 = .ok (.getfield 9, 3) := by decide +kernel
theorem dX8_movable_58 : decode cX8_movable 58 = .ok (.iload_n 2, 1) := by decide +kernel
theorem dX8_movable_59 : decode cX8_movable 59 = .ok (.iaload, 1) := by decide +kernel
theorem dX8_movable_60 : decode cX8_movable 60 = .ok (.aload_n 0, 1) := by decide +kernel
theorem dX8_movable_61 : decode cX8_movable 61 = .ok (.iload_n 2, 1) := by decide +kernel
theorem dX8_movable_62 : decode cX8_movable 62 = .ok (.iload_n 3, 1) := by decide +kernel
theorem dX8_movable_63 : decode cX8_movable 63 = .ok (.invokevirtual 60, 3) := by decide +kernel
theorem dX8_movable_66 : decode cX8_movable 66 = .ok (.iload 4, 2) := by decide +kernel
theorem dX8_movable_68 : decode cX8_movable 68 = .ok (.idiv, 1) := by decide +kernel
theorem dX8_movable_69 : decode cX8_movable 69 = .ok (.invokestatic 67, 3) := by decide +kernel
theorem dX8_movable_72 : decode cX8_movable 72 = .ok (.goto 4, 3) := by decide +kernel
theorem dX8_movable_75 : decode cX8_movable 75 = .ok (.iconst 0, 1) := by decide +kernel
theorem dX8_movable_76 : decode cX8_movable 76 = .ok (.ireturn, 1) := by decide +kernel
theorem dX8_run_0 : decode cX8_run 0 = .ok (.aload_n 0, 1) := by decide +kernel
theorem dX8_run_1 : decode cX8_run 1 = .ok (.iload_n 1, 1) := by decide +kernel
theorem dX8_run_2 : decode cX8_run 2 = .ok (.invokevirtual 64, 3) := by decide +kernel
theorem dX8_run_5 : decode cX8_run 5 = .ok (.istore_n 3, 1) := by decide +kernel
theorem dX8_run_6 : decode cX8_run 6 = .ok (.iload_n 2, 1) := by decide +kernel
theorem dX8_run_7 : decode cX8_run 7 = .ok (.aload_n 0, 1) := by decide +kernel
theorem dX8_run_8 : decode cX8_run 8 = .ok (.iload_n 1, 1) := by decide +kernel
theorem dX8_run_9 : decode cX8_run 9 = .ok (.invokevirtual 72, 3) := by decide +kernel
theorem dX8_run_12 : decode cX8_run 12 = .ok (.invokestatic 67, 3) := by decide +kernel
theorem dX8_run_15 : decode cX8_run 15 = .ok (.istore 4, 2) := by decide +kernel
theorem dX8_run_17 : decode cX8_run 17 = .ok (.aload_n 0, 1) := by decide +kernel
theorem dX8_run_18 : decode cX8_run 18 = .ok (.iload_n 3, 1) := by decide +kernel
theorem dX8_run_19 : decode cX8_run 19 = .ok (.aload_n 0, 1) := by decide +kernel
theorem dX8_run_20 : decode cX8_run 20 = .ok (.getfield 21, 3) := by decide +kernel
theorem dX8_run_23 : decode cX8_run 23 = .ok (.getfield 54, 3) := by decide +kernel
theorem dX8_run_26 : decode cX8_run 26 = .ok (.iload_n 1, 1) := by decide +kernel
theorem dX8_run_27 : decode cX8_run 27 = .ok (.iaload, 1) := by decide +kernel
theorem dX8_run_28 : decode cX8_run 28 = .ok (.aload_n 0, 1) := by decide +kernel
theorem dX8_run_29 : decode cX8_run 29 = .ok (.getfield 21, 3) := by decide +kernel
theorem dX8_run_32 : decode cX8_run 32 = .ok (.getfield 57, 3) := by decide +kernel
theorem dX8_run_35 : decode cX8_run 35 = .ok (.iload_n 1, 1) := by decide +kernel
theorem dX8_run_36 : decode cX8_run 36 = .ok (.iaload, 1) := by decide +kernel
theorem dX8_run_37 : decode cX8_run 37 = .ok (.iadd, 1) := by decide +kernel
theorem dX8_run_38 : decode cX8_run 38 = .ok (.iload_n 3, 1) := by decide +kernel
theorem dX8_run_39 : decode cX8_run 39 = .ok (.isub, 1) := by decide +kernel
theorem dX8_run_40 : decode cX8_run 40 = .ok (.iload 4, 2) := by decide +kernel
theorem dX8_run_42 : decode cX8_run 42 = .ok (.invokevirtual 75, 3) := by decide +kernel
theorem dX8_run_45 : decode cX8_run 45 = .ok (.iload 4, 2) := by decide +kernel
theorem dX8_run_47 : decode cX8_run 47 = .ok (.ireturn, 1) := by decide +kernel
theorem dX8_move_0 : decode cX8_move 0 = .ok (.aload_n 0, 1) := by decide +kernel
theorem dX8_move_1 : decode cX8_move 1 = .ok (.getfield 9, 3) := by decide +kernel
theorem dX8_move_4 : decode cX8_move 4 = .ok (.iload_n 1, 1) := by decide +kernel
theorem dX8_move_5 : decode cX8_move 5 = .ok (.dup2, 1) := by decide +kernel
theorem dX8_move_6 : decode cX8_move 6 = .ok (.iaload, 1) := by decide +kernel
theorem dX8_move_7 : decode cX8_move 7 = .ok (.iload_n 3, 1) := by decide +kernel
theorem dX8_move_8 : decode cX8_move 8 = .ok (.isub, 1) := by decide +kernel
theorem dX8_move_9 : decode cX8_move 9 = .ok (.iastore, 1) := by decide +kernel
theorem dX8_move_10 : decode cX8_move 10 = .ok (.aload_n 0, 1) := by decide +kernel
theorem dX8_move_11 : decode cX8_move 11 = .ok (.getfield 9, 3) := by decide +kernel
theorem dX8_move_14 : decode cX8_move 14 = .ok (.iload_n 2, 1) := by decide +kernel
theorem dX8_move_15 : decode cX8_move 15 = .ok (.dup2, 1) := by decide +kernel
theorem dX8_move_16 : decode cX8_move 16 = .ok (.iaload, 1) := by decide +kernel
theorem dX8_move_17 : decode cX8_move 17 = .ok (.iload_n 3, 1) := by decide +kernel
theorem dX8_move_18 : decode cX8_move 18 = .ok (.iadd, 1) := by decide +kernel
theorem dX8_move_19 : decode cX8_move 19 = .ok (.iastore, 1) := by decide +kernel
theorem dX8_move_20 : decode cX8_move 20 = .ok (.return_, 1) := by decide +kernel
theorem dX8_runAll_0 : decode cX8_runAll 0 = .ok (.iconst 0, 1) := by decide +kernel
theorem dX8_runAll_1 : decode cX8_runAll 1 = .ok (.istore_n 1, 1) := by decide +kernel
theorem dX8_runAll_2 : decode cX8_runAll 2 = .ok (.iconst 0, 1) := by decide +kernel
theorem dX8_runAll_3 : decode cX8_runAll 3 = .ok (.istore_n 2, 1) := by decide +kernel
theorem dX8_runAll_4 : decode cX8_runAll 4 = .ok (.iload_n 2, 1) := by decide +kernel
theorem dX8_runAll_5 : decode cX8_runAll 5 = .ok (.aload_n 0, 1) := by decide +kernel
theorem dX8_runAll_6 : decode cX8_runAll 6 = .ok (.getfield 21, 3) := by decide +kernel
theorem dX8_runAll_9 : decode cX8_runAll 9 = .ok (.getfield 79, 3) := by decide +kernel
theorem dX8_runAll_12 : decode cX8_runAll 12 = .ok (.if_icmp .ge 27, 3) := by decide +kernel
theorem dX8_runAll_15 : decode cX8_runAll 15 = .ok (.aload_n 0, 1) := by decide +kernel
theorem dX8_runAll_16 : decode cX8_runAll 16 = .ok (.iload_n 2, 1) := by decide +kernel
theorem dX8_runAll_17 : decode cX8_runAll 17 = .ok (.invokevirtual 82, 3) := by decide +kernel
theorem dX8_runAll_20 : decode cX8_runAll 20 = .ok (.ifCond .ne 13, 3) := by decide +kernel
theorem dX8_runAll_23 : decode cX8_runAll 23 = .ok (.iload_n 1, 1) := by decide +kernel
theorem dX8_runAll_24 : decode cX8_runAll 24 = .ok (.aload_n 0, 1) := by decide +kernel
theorem dX8_runAll_25 : decode cX8_runAll 25 = .ok (.iload_n 2, 1) := by decide +kernel
theorem dX8_runAll_26 : decode cX8_runAll 26 = .ok (.ldc 88, 2) := by decide +kernel
theorem dX8_runAll_28 : decode cX8_runAll 28 = .ok (.invokevirtual 89, 3) := by decide +kernel
theorem dX8_runAll_31 : decode cX8_runAll 31 = .ok (.iadd, 1) := by decide +kernel
theorem dX8_runAll_32 : decode cX8_runAll 32 = .ok (.istore_n 1, 1) := by decide +kernel
theorem dX8_runAll_33 : decode cX8_runAll 33 = .ok (.iinc 2 1, 3) := by decide +kernel
theorem dX8_runAll_36 : decode cX8_runAll 36 = .ok (.goto (-32), 3) := by decide +kernel
theorem dX8_runAll_39 : decode cX8_runAll 39 = .ok (.iload_n 1, 1) := by decide +kernel
theorem dX8_runAll_40 : decode cX8_runAll 40 = .ok (.ireturn, 1) := by decide +kernel
theorem dX8_pour_0 : decode cX8_pour 0 = .ok (.aload_n 0, 1) := by decide +kernel
theorem dX8_pour_1 : decode cX8_pour 1 = .ok (.getfield 9, 3) := by decide +kernel
theorem dX8_pour_4 : decode cX8_pour 4 = .ok (.iload_n 1, 1) := by decide +kernel
theorem dX8_pour_5 : decode cX8_pour 5 = .ok (.iaload, 1) := by decide +kernel
theorem dX8_pour_6 : decode cX8_pour 6 = .ok (.sipush 9999, 3) := by decide +kernel
theorem dX8_pour_9 : decode cX8_pour 9 = .ok (.if_icmp .ge 23, 3) := by decide +kernel
theorem dX8_pour_12 : decode cX8_pour 12 = .ok (.aload_n 0, 1) := by decide +kernel
theorem dX8_pour_13 : decode cX8_pour 13 = .ok (.getfield 9, 3) := by decide +kernel
theorem dX8_pour_16 : decode cX8_pour 16 = .ok (.iload_n 1, 1) := by decide +kernel
theorem dX8_pour_17 : decode cX8_pour 17 = .ok (.sipush 9999, 3) := by decide +kernel
theorem dX8_pour_20 : decode cX8_pour 20 = .ok (.aload_n 0, 1) := by decide +kernel
theorem dX8_pour_21 : decode cX8_pour 21 = .ok (.getfield 9, 3) := by decide +kernel
theorem dX8_pour_24 : decode cX8_pour 24 = .ok (.iload_n 1, 1) := by decide +kernel
theorem dX8_pour_25 : decode cX8_pour 25 = .ok (.iaload, 1) := by decide +kernel
theorem dX8_pour_26 : decode cX8_pour 26 = .ok (.iload_n 2, 1) := by decide +kernel
theorem dX8_pour_27 : decode cX8_pour 27 = .ok (.iadd, 1) := by decide +kernel
theorem dX8_pour_28 : decode cX8_pour 28 = .ok (.invokestatic 67, 3) := by decide +kernel
theorem dX8_pour_31 : decode cX8_pour 31 = .ok (.iastore, 1) := by decide +kernel
theorem dX8_pour_32 : decode cX8_pour 32 = .ok (.return_, 1) := by decide +kernel
theorem dX8_lose_0 : decode cX8_lose 0 = .ok (.aload_n 0, 1) := by decide +kernel
theorem dX8_lose_1 : decode cX8_lose 1 = .ok (.getfield 9, 3) := by decide +kernel
theorem dX8_lose_4 : decode cX8_lose 4 = .ok (.iload_n 1, 1) := by decide +kernel
theorem dX8_lose_5 : decode cX8_lose 5 = .ok (.iconst 0, 1) := by decide +kernel
theorem dX8_lose_6 : decode cX8_lose 6 = .ok (.aload_n 0, 1) := by decide +kernel
theorem dX8_lose_7 : decode cX8_lose 7 = .ok (.getfield 9, 3) := by decide +kernel
theorem dX8_lose_10 : decode cX8_lose 10 = .ok (.iload_n 1, 1) := by decide +kernel
theorem dX8_lose_11 : decode cX8_lose 11 = .ok (.iaload, 1) := by decide +kernel
theorem dX8_lose_12 : decode cX8_lose 12 = .ok (.iload_n 2, 1) := by decide +kernel
theorem dX8_lose_13 : decode cX8_lose 13 = .ok (.isub, 1) := by decide +kernel
theorem dX8_lose_14 : decode cX8_lose 14 = .ok (.invokestatic 92, 3) := by decide +kernel
theorem dX8_lose_17 : decode cX8_lose 17 = .ok (.iastore, 1) := by decide +kernel
theorem dX8_lose_18 : decode cX8_lose 18 = .ok (.return_, 1) := by decide +kernel
theorem dX8_waterOf_0 : decode cX8_waterOf 0 = .ok (.iconst 0, 1) := by decide +kernel
theorem dX8_waterOf_1 : decode cX8_waterOf 1 = .ok (.istore_n 2, 1) := by decide +kernel
theorem dX8_waterOf_2 : decode cX8_waterOf 2 = .ok (.iconst 0, 1) := by decide +kernel
theorem dX8_waterOf_3 : decode cX8_waterOf 3 = .ok (.istore_n 3, 1) := by decide +kernel
theorem dX8_waterOf_4 : decode cX8_waterOf 4 = .ok (.iload_n 3, 1) := by decide +kernel
theorem dX8_waterOf_5 : decode cX8_waterOf 5 = .ok (.aload_n 0, 1) := by decide +kernel
theorem dX8_waterOf_6 : decode cX8_waterOf 6 = .ok (.getfield 21, 3) := by decide +kernel
theorem dX8_waterOf_9 : decode cX8_waterOf 9 = .ok (.getfield 95, 3) := by decide +kernel
theorem dX8_waterOf_12 : decode cX8_waterOf 12 = .ok (.if_icmp .ge 27, 3) := by decide +kernel
theorem dX8_waterOf_15 : decode cX8_waterOf 15 = .ok (.iload_n 1, 1) := by decide +kernel
theorem dX8_waterOf_16 : decode cX8_waterOf 16 = .ok (.iload_n 3, 1) := by decide +kernel
theorem dX8_waterOf_17 : decode cX8_waterOf 17 = .ok (.ishr, 1) := by decide +kernel
theorem dX8_waterOf_18 : decode cX8_waterOf 18 = .ok (.iconst 1, 1) := by decide +kernel
theorem dX8_waterOf_19 : decode cX8_waterOf 19 = .ok (.iand, 1) := by decide +kernel
theorem dX8_waterOf_20 : decode cX8_waterOf 20 = .ok (.iconst 1, 1) := by decide +kernel
theorem dX8_waterOf_21 : decode cX8_waterOf 21 = .ok (.if_icmp .ne 12, 3) := by decide +kernel
theorem dX8_waterOf_24 : decode cX8_waterOf 24 = .ok (.iload_n 2, 1) := by decide +kernel
theorem dX8_waterOf_25 : decode cX8_waterOf 25 = .ok (.aload_n 0, 1) := by decide +kernel
theorem dX8_waterOf_26 : decode cX8_waterOf 26 = .ok (.getfield 9, 3) := by decide +kernel
theorem dX8_waterOf_29 : decode cX8_waterOf 29 = .ok (.iload_n 3, 1) := by decide +kernel
theorem dX8_waterOf_30 : decode cX8_waterOf 30 = .ok (.iaload, 1) := by decide +kernel
theorem dX8_waterOf_31 : decode cX8_waterOf 31 = .ok (.iadd, 1) := by decide +kernel
theorem dX8_waterOf_32 : decode cX8_waterOf 32 = .ok (.istore_n 2, 1) := by decide +kernel
theorem dX8_waterOf_33 : decode cX8_waterOf 33 = .ok (.iinc 3 1, 3) := by decide +kernel
theorem dX8_waterOf_36 : decode cX8_waterOf 36 = .ok (.goto (-32), 3) := by decide +kernel
theorem dX8_waterOf_39 : decode cX8_waterOf 39 = .ok (.iload_n 2, 1) := by decide +kernel
theorem dX8_waterOf_40 : decode cX8_waterOf 40 = .ok (.ireturn, 1) := by decide +kernel
theorem dX8_boatIn_0 : decode cX8_boatIn 0 = .ok (.iconst 0, 1) := by decide +kernel
theorem dX8_boatIn_1 : decode cX8_boatIn 1 = .ok (.istore_n 2, 1) := by decide +kernel
theorem dX8_boatIn_2 : decode cX8_boatIn 2 = .ok (.iload_n 2, 1) := by decide +kernel
theorem dX8_boatIn_3 : decode cX8_boatIn 3 = .ok (.aload_n 0, 1) := by decide +kernel
theorem dX8_boatIn_4 : decode cX8_boatIn 4 = .ok (.getfield 21, 3) := by decide +kernel
theorem dX8_boatIn_7 : decode cX8_boatIn 7 = .ok (.getfield 98, 3) := by decide +kernel
theorem dX8_boatIn_10 : decode cX8_boatIn 10 = .ok (.getfield 102, 3) := by decide +kernel
theorem dX8_boatIn_13 : decode cX8_boatIn 13 = .ok (.if_icmp .ge 37, 3) := by decide +kernel
theorem dX8_boatIn_16 : decode cX8_boatIn 16 = .ok (.aload_n 0, 1) := by decide +kernel
theorem dX8_boatIn_17 : decode cX8_boatIn 17 = .ok (.getfield 15, 3) := by decide +kernel
theorem dX8_boatIn_20 : decode cX8_boatIn 20 = .ok (.iload_n 2, 1) := by decide +kernel
theorem dX8_boatIn_21 : decode cX8_boatIn 21 = .ok (.iaload, 1) := by decide +kernel
theorem dX8_boatIn_22 : decode cX8_boatIn 22 = .ok (.iconst 1, 1) := by decide +kernel
theorem dX8_boatIn_23 : decode cX8_boatIn 23 = .ok (.if_icmp .ne 21, 3) := by decide +kernel
theorem dX8_boatIn_26 : decode cX8_boatIn 26 = .ok (.aload_n 0, 1) := by decide +kernel
theorem dX8_boatIn_27 : decode cX8_boatIn 27 = .ok (.getfield 21, 3) := by decide +kernel
theorem dX8_boatIn_30 : decode cX8_boatIn 30 = .ok (.getfield 98, 3) := by decide +kernel
theorem dX8_boatIn_33 : decode cX8_boatIn 33 = .ok (.getfield 107, 3) := by decide +kernel
theorem dX8_boatIn_36 : decode cX8_boatIn 36 = .ok (.iload_n 2, 1) := by decide +kernel
theorem dX8_boatIn_37 : decode cX8_boatIn 37 = .ok (.iaload, 1) := by decide +kernel
theorem dX8_boatIn_38 : decode cX8_boatIn 38 = .ok (.iload_n 1, 1) := by decide +kernel
theorem dX8_boatIn_39 : decode cX8_boatIn 39 = .ok (.if_icmp .ne 5, 3) := by decide +kernel
theorem dX8_boatIn_42 : decode cX8_boatIn 42 = .ok (.iload_n 2, 1) := by decide +kernel
theorem dX8_boatIn_43 : decode cX8_boatIn 43 = .ok (.ireturn, 1) := by decide +kernel
theorem dX8_boatIn_44 : decode cX8_boatIn 44 = .ok (.iinc 2 1, 3) := by decide +kernel
theorem dX8_boatIn_47 : decode cX8_boatIn 47 = .ok (.goto (-45), 3) := by decide +kernel
theorem dX8_boatIn_50 : decode cX8_boatIn 50 = .ok (.iconst (-1), 1) := by decide +kernel
theorem dX8_boatIn_51 : decode cX8_boatIn 51 = .ok (.ireturn, 1) := by decide +kernel
theorem dX8_letIn_0 : decode cX8_letIn 0 = .ok (.aload_n 0, 1) := by decide +kernel
theorem dX8_letIn_1 : decode cX8_letIn 1 = .ok (.getfield 15, 3) := by decide +kernel
theorem dX8_letIn_4 : decode cX8_letIn 4 = .ok (.iload_n 1, 1) := by decide +kernel
theorem dX8_letIn_5 : decode cX8_letIn 5 = .ok (.iaload, 1) := by decide +kernel
theorem dX8_letIn_6 : decode cX8_letIn 6 = .ok (.ifCond .ne 50, 3) := by decide +kernel
theorem dX8_letIn_9 : decode cX8_letIn 9 = .ok (.aload_n 0, 1) := by decide +kernel
theorem dX8_letIn_10 : decode cX8_letIn 10 = .ok (.iload_n 2, 1) := by decide +kernel
theorem dX8_letIn_11 : decode cX8_letIn 11 = .ok (.invokevirtual 110, 3) := by decide +kernel
theorem dX8_letIn_14 : decode cX8_letIn 14 = .ok (.iconst (-1), 1) := by decide +kernel
theorem dX8_letIn_15 : decode cX8_letIn 15 = .ok (.if_icmp .ne 41, 3) := by decide +kernel
theorem dX8_letIn_18 : decode cX8_letIn 18 = .ok (.aload_n 0, 1) := by decide +kernel
theorem dX8_letIn_19 : decode cX8_letIn 19 = .ok (.aload_n 0, 1) := by decide +kernel
theorem dX8_letIn_20 : decode cX8_letIn 20 = .ok (.getfield 21, 3) := by decide +kernel
theorem dX8_letIn_23 : decode cX8_letIn 23 = .ok (.getfield 98, 3) := by decide +kernel
theorem dX8_letIn_26 : decode cX8_letIn 26 = .ok (.getfield 113, 3) := by decide +kernel
theorem dX8_letIn_29 : decode cX8_letIn 29 = .ok (.iload_n 2, 1) := by decide +kernel
theorem dX8_letIn_30 : decode cX8_letIn 30 = .ok (.iaload, 1) := by decide +kernel
theorem dX8_letIn_31 : decode cX8_letIn 31 = .ok (.aload_n 0, 1) := by decide +kernel
theorem dX8_letIn_32 : decode cX8_letIn 32 = .ok (.getfield 21, 3) := by decide +kernel
theorem dX8_letIn_35 : decode cX8_letIn 35 = .ok (.getfield 98, 3) := by decide +kernel
theorem dX8_letIn_38 : decode cX8_letIn 38 = .ok (.getfield 116, 3) := by decide +kernel
theorem dX8_letIn_41 : decode cX8_letIn 41 = .ok (.iload_n 2, 1) := by decide +kernel
theorem dX8_letIn_42 : decode cX8_letIn 42 = .ok (.iaload, 1) := by decide +kernel
theorem dX8_letIn_43 : decode cX8_letIn 43 = .ok (.invokevirtual 119, 3) := by decide +kernel
theorem dX8_letIn_46 : decode cX8_letIn 46 = .ok (.ifCond .eq 10, 3) := by decide +kernel
theorem dX8_letIn_49 : decode cX8_letIn 49 = .ok (.aload_n 0, 1) := by decide +kernel
theorem dX8_letIn_50 : decode cX8_letIn 50 = .ok (.getfield 15, 3) := by decide +kernel
theorem dX8_letIn_53 : decode cX8_letIn 53 = .ok (.iload_n 1, 1) := by decide +kernel
theorem dX8_letIn_54 : decode cX8_letIn 54 = .ok (.iconst 1, 1) := by decide +kernel
theorem dX8_letIn_55 : decode cX8_letIn 55 = .ok (.iastore, 1) := by decide +kernel
theorem dX8_letIn_56 : decode cX8_letIn 56 = .ok (.return_, 1) := by decide +kernel
theorem dX8_canGoUp_0 : decode cX8_canGoUp 0 = .ok (.aload_n 0, 1) := by decide +kernel
theorem dX8_canGoUp_1 : decode cX8_canGoUp 1 = .ok (.getfield 15, 3) := by decide +kernel
theorem dX8_canGoUp_4 : decode cX8_canGoUp 4 = .ok (.iload_n 1, 1) := by decide +kernel
theorem dX8_canGoUp_5 : decode cX8_canGoUp 5 = .ok (.iaload, 1) := by decide +kernel
theorem dX8_canGoUp_6 : decode cX8_canGoUp 6 = .ok (.iconst 1, 1) := by decide +kernel
theorem dX8_canGoUp_7 : decode cX8_canGoUp 7 = .ok (.if_icmp .ne 38, 3) := by decide +kernel
theorem dX8_canGoUp_10 : decode cX8_canGoUp 10 = .ok (.aload_n 0, 1) := by decide +kernel
theorem dX8_canGoUp_11 : decode cX8_canGoUp 11 = .ok (.aload_n 0, 1) := by decide +kernel
theorem dX8_canGoUp_12 : decode cX8_canGoUp 12 = .ok (.getfield 21, 3) := by decide +kernel
theorem dX8_canGoUp_15 : decode cX8_canGoUp 15 = .ok (.getfield 98, 3) := by decide +kernel
theorem dX8_canGoUp_18 : decode cX8_canGoUp 18 = .ok (.getfield 113, 3) := by decide +kernel
theorem dX8_canGoUp_21 : decode cX8_canGoUp 21 = .ok (.iload_n 2, 1) := by decide +kernel
theorem dX8_canGoUp_22 : decode cX8_canGoUp 22 = .ok (.iaload, 1) := by decide +kernel
theorem dX8_canGoUp_23 : decode cX8_canGoUp 23 = .ok (.aload_n 0, 1) := by decide +kernel
theorem dX8_canGoUp_24 : decode cX8_canGoUp 24 = .ok (.getfield 21, 3) := by decide +kernel
theorem dX8_canGoUp_27 : decode cX8_canGoUp 27 = .ok (.getfield 98, 3) := by decide +kernel
theorem dX8_canGoUp_30 : decode cX8_canGoUp 30 = .ok (.getfield 123, 3) := by decide +kernel
theorem dX8_canGoUp_33 : decode cX8_canGoUp 33 = .ok (.iload_n 2, 1) := by decide +kernel
theorem dX8_canGoUp_34 : decode cX8_canGoUp 34 = .ok (.iaload, 1) := by decide +kernel
theorem dX8_canGoUp_35 : decode cX8_canGoUp 35 = .ok (.invokevirtual 126, 3) := by decide +kernel
theorem dX8_canGoUp_38 : decode cX8_canGoUp 38 = .ok (.ifCond .eq 7, 3) := by decide +kernel
theorem dX8_canGoUp_41 : decode cX8_canGoUp 41 = .ok (.iconst 1, 1) := by decide +kernel
theorem dX8_canGoUp_42 : decode cX8_canGoUp 42 = .ok (.goto 4, 3) := by decide +kernel
theorem dX8_canGoUp_45 : decode cX8_canGoUp 45 = .ok (.iconst 0, 1) := by decide +kernel
theorem dX8_canGoUp_46 : decode cX8_canGoUp 46 = .ok (.ireturn, 1) := by decide +kernel
theorem dX8_boatsThatAre_0 : decode cX8_boatsThatAre 0 = .ok (.iconst 0, 1) := by decide +kernel
theorem dX8_boatsThatAre_1 : decode cX8_boatsThatAre 1 = .ok (.istore_n 2, 1) := by decide +kernel
theorem dX8_boatsThatAre_2 : decode cX8_boatsThatAre 2 = .ok (.iconst 0, 1) := by decide +kernel
theorem dX8_boatsThatAre_3 : decode cX8_boatsThatAre 3 = .ok (.istore_n 3, 1) := by decide +kernel
theorem dX8_boatsThatAre_4 : decode cX8_boatsThatAre 4 = .ok (.iload_n 3, 1) := by decide +kernel
theorem dX8_boatsThatAre_5 : decode cX8_boatsThatAre 5 = .ok (.aload_n 0, 1) := by decide +kernel
theorem dX8_boatsThatAre_6 : decode cX8_boatsThatAre 6 = .ok (.getfield 21, 3) := by decide +kernel
theorem dX8_boatsThatAre_9 : decode cX8_boatsThatAre 9 = .ok (.getfield 98, 3) := by decide +kernel
theorem dX8_boatsThatAre_12 : decode cX8_boatsThatAre 12 = .ok (.getfield 102, 3) := by decide +kernel
theorem dX8_boatsThatAre_15 : decode cX8_boatsThatAre 15 = .ok (.if_icmp .ge 22, 3) := by decide +kernel
theorem dX8_boatsThatAre_18 : decode cX8_boatsThatAre 18 = .ok (.aload_n 0, 1) := by decide +kernel
theorem dX8_boatsThatAre_19 : decode cX8_boatsThatAre 19 = .ok (.getfield 15, 3) := by decide +kernel
theorem dX8_boatsThatAre_22 : decode cX8_boatsThatAre 22 = .ok (.iload_n 3, 1) := by decide +kernel
theorem dX8_boatsThatAre_23 : decode cX8_boatsThatAre 23 = .ok (.iaload, 1) := by decide +kernel
theorem dX8_boatsThatAre_24 : decode cX8_boatsThatAre 24 = .ok (.iload_n 1, 1) := by decide +kernel
theorem dX8_boatsThatAre_25 : decode cX8_boatsThatAre 25 = .ok (.if_icmp .ne 6, 3) := by decide +kernel
theorem dX8_boatsThatAre_28 : decode cX8_boatsThatAre 28 = .ok (.iinc 2 1, 3) := by decide +kernel
theorem dX8_boatsThatAre_31 : decode cX8_boatsThatAre 31 = .ok (.iinc 3 1, 3) := by decide +kernel
theorem dX8_boatsThatAre_34 : decode cX8_boatsThatAre 34 = .ok (.goto (-30), 3) := by decide +kernel
theorem dX8_boatsThatAre_37 : decode cX8_boatsThatAre 37 = .ok (.iload_n 2, 1) := by decide +kernel
theorem dX8_boatsThatAre_38 : decode cX8_boatsThatAre 38 = .ok (.ireturn, 1) := by decide +kernel
theorem dX8_waitedByAll_0 : decode cX8_waitedByAll 0 = .ok (.iconst 0, 1) := by decide +kernel
theorem dX8_waitedByAll_1 : decode cX8_waitedByAll 1 = .ok (.istore_n 1, 1) := by decide +kernel
theorem dX8_waitedByAll_2 : decode cX8_waitedByAll 2 = .ok (.iconst 0, 1) := by decide +kernel
theorem dX8_waitedByAll_3 : decode cX8_waitedByAll 3 = .ok (.istore_n 2, 1) := by decide +kernel
theorem dX8_waitedByAll_4 : decode cX8_waitedByAll 4 = .ok (.iload_n 2, 1) := by decide +kernel
theorem dX8_waitedByAll_5 : decode cX8_waitedByAll 5 = .ok (.aload_n 0, 1) := by decide +kernel
theorem dX8_waitedByAll_6 : decode cX8_waitedByAll 6 = .ok (.getfield 21, 3) := by decide +kernel
theorem dX8_waitedByAll_9 : decode cX8_waitedByAll 9 = .ok (.getfield 98, 3) := by decide +kernel
theorem dX8_waitedByAll_12 : decode cX8_waitedByAll 12 = .ok (.getfield 102, 3) := by decide +kernel
theorem dX8_waitedByAll_15 : decode cX8_waitedByAll 15 = .ok (.if_icmp .ge 18, 3) := by decide +kernel
theorem dX8_waitedByAll_18 : decode cX8_waitedByAll 18 = .ok (.iload_n 1, 1) := by decide +kernel
theorem dX8_waitedByAll_19 : decode cX8_waitedByAll 19 = .ok (.aload_n 0, 1) := by decide +kernel
theorem dX8_waitedByAll_20 : decode cX8_waitedByAll 20 = .ok (.getfield 18, 3) := by decide +kernel
theorem dX8_waitedByAll_23 : decode cX8_waitedByAll 23 = .ok (.iload_n 2, 1) := by decide +kernel
theorem dX8_waitedByAll_24 : decode cX8_waitedByAll 24 = .ok (.iaload, 1) := by decide +kernel
theorem dX8_waitedByAll_25 : decode cX8_waitedByAll 25 = .ok (.iadd, 1) := by decide +kernel
theorem dX8_waitedByAll_26 : decode cX8_waitedByAll 26 = .ok (.istore_n 1, 1) := by decide +kernel
theorem dX8_waitedByAll_27 : decode cX8_waitedByAll 27 = .ok (.iinc 2 1, 3) := by decide +kernel
theorem dX8_waitedByAll_30 : decode cX8_waitedByAll 30 = .ok (.goto (-26), 3) := by decide +kernel
theorem dX8_waitedByAll_33 : decode cX8_waitedByAll 33 = .ok (.iload_n 1, 1) := by decide +kernel
theorem dX8_waitedByAll_34 : decode cX8_waitedByAll 34 = .ok (.ireturn, 1) := by decide +kernel
theorem dX8_nextNumber_0 : decode cX8_nextNumber 0 = .ok (.aload_n 0, 1) := by decide +kernel
theorem dX8_nextNumber_1 : decode cX8_nextNumber 1 = .ok (.aload_n 0, 1) := by decide +kernel
theorem dX8_nextNumber_2 : decode cX8_nextNumber 2 = .ok (.getfield 41, 3) := by decide +kernel
theorem dX8_nextNumber_5 : decode cX8_nextNumber 5 = .ok (.i2l, 1) := by decide +kernel
theorem dX8_nextNumber_6 : decode cX8_nextNumber 6 = .ok (.ldc2_w 129, 3) := by decide +kernel
theorem dX8_nextNumber_9 : decode cX8_nextNumber 9 = .ok (.lmul, 1) := by decide +kernel
theorem dX8_nextNumber_10 : decode cX8_nextNumber 10 = .ok (.ldc2_w 131, 3) := by decide +kernel
theorem dX8_nextNumber_13 : decode cX8_nextNumber 13 = .ok (.ladd, 1) := by decide +kernel
theorem dX8_nextNumber_14 : decode cX8_nextNumber 14 = .ok (.ldc2_w 133, 3) := by decide +kernel
theorem dX8_nextNumber_17 : decode cX8_nextNumber 17 = .ok (.land, 1) := by decide +kernel
theorem dX8_nextNumber_18 : decode cX8_nextNumber 18 = .ok (.l2i, 1) := by decide +kernel
theorem dX8_nextNumber_19 : decode cX8_nextNumber 19 = .ok (.putfield 41, 3) := by decide +kernel
theorem dX8_nextNumber_22 : decode cX8_nextNumber 22 = .ok (.aload_n 0, 1) := by decide +kernel
theorem dX8_nextNumber_23 : decode cX8_nextNumber 23 = .ok (.getfield 41, 3) := by decide +kernel
theorem dX8_nextNumber_26 : decode cX8_nextNumber 26 = .ok (.bipush 16, 2) := by decide +kernel
theorem dX8_nextNumber_28 : decode cX8_nextNumber 28 = .ok (.ishr, 1) := by decide +kernel
theorem dX8_nextNumber_29 : decode cX8_nextNumber 29 = .ok (.ireturn, 1) := by decide +kernel
theorem dX9_init_0 : decode cX9_init 0 = .ok (.aload_n 0, 1) := by decide +kernel
theorem dX9_init_1 : decode cX9_init 1 = .ok (.invokespecial 3, 3) := by decide +kernel
theorem dX9_init_4 : decode cX9_init 4 = .ok (.aload_n 0, 1) := by decide +kernel
theorem dX9_init_5 : decode cX9_init 5 = .ok (.sipush 700, 3) := by decide +kernel
theorem dX9_init_8 : decode cX9_init 8 = .ok (.newarray .int, 2) := by decide +kernel
theorem dX9_init_10 : decode cX9_init 10 = .ok (.putfield 9, 3) := by decide +kernel
theorem dX9_init_13 : decode cX9_init 13 = .ok (.aload_n 0, 1) := by decide +kernel
theorem dX9_init_14 : decode cX9_init 14 = .ok (.sipush 701, 3) := by decide +kernel
theorem dX9_init_17 : decode cX9_init 17 = .ok (.newarray .int, 2) := by decide +kernel
theorem dX9_init_19 : decode cX9_init 19 = .ok (.putfield 15, 3) := by decide +kernel
theorem dX9_init_22 : decode cX9_init 22 = .ok (.aload_n 0, 1) := by decide +kernel
theorem dX9_init_23 : decode cX9_init 23 = .ok (.sipush 701, 3) := by decide +kernel
theorem dX9_init_26 : decode cX9_init 26 = .ok (.newarray .int, 2) := by decide +kernel
theorem dX9_init_28 : decode cX9_init 28 = .ok (.putfield 18, 3) := by decide +kernel
theorem dX9_init_31 : decode cX9_init 31 = .ok (.aload_n 0, 1) := by decide +kernel
theorem dX9_init_32 : decode cX9_init 32 = .ok (.sipush 701, 3) := by decide +kernel
theorem dX9_init_35 : decode cX9_init 35 = .ok (.newarray .int, 2) := by decide +kernel
theorem dX9_init_37 : decode cX9_init 37 = .ok (.putfield 21, 3) := by decide +kernel
theorem dX9_init_40 : decode cX9_init 40 = .ok (.return_, 1) := by decide +kernel
theorem dX9_hasRoom_0 : decode cX9_hasRoom 0 = .ok (.aload_n 0, 1) := by decide +kernel
theorem dX9_hasRoom_1 : decode cX9_hasRoom 1 = .ok (.getfield 24, 3) := by decide +kernel
theorem dX9_hasRoom_4 : decode cX9_hasRoom 4 = .ok (.bipush 20, 2) := by decide +kernel
theorem dX9_hasRoom_6 : decode cX9_hasRoom 6 = .ok (.iadd, 1) := by decide +kernel
theorem dX9_hasRoom_7 : decode cX9_hasRoom 7 = .ok (.sipush 700, 3) := by decide +kernel
theorem dX9_hasRoom_10 : decode cX9_hasRoom 10 = .ok (.if_icmp .gt 7, 3) := by decide +kernel
theorem dX9_hasRoom_13 : decode cX9_hasRoom 13 = .ok (.iconst 1, 1) := by decide +kernel
theorem dX9_hasRoom_14 : decode cX9_hasRoom 14 = .ok (.goto 4, 3) := by decide +kernel
theorem dX9_hasRoom_17 : decode cX9_hasRoom 17 = .ok (.iconst 0, 1) := by decide +kernel
theorem dX9_hasRoom_18 : decode cX9_hasRoom 18 = .ok (.ireturn, 1) := by decide +kernel
theorem dX9_append_0 : decode cX9_append 0 = .ok (.bipush 24, 2) := by decide +kernel
theorem dX9_append_2 : decode cX9_append 2 = .ok (.istore_n 2, 1) := by decide +kernel
theorem dX9_append_3 : decode cX9_append 3 = .ok (.iload_n 2, 1) := by decide +kernel
theorem dX9_append_4 : decode cX9_append 4 = .ok (.ifCond .lt 45, 3) := by decide +kernel
theorem dX9_append_7 : decode cX9_append 7 = .ok (.aload_n 0, 1) := by decide +kernel
theorem dX9_append_8 : decode cX9_append 8 = .ok (.getfield 24, 3) := by decide +kernel
theorem dX9_append_11 : decode cX9_append 11 = .ok (.sipush 700, 3) := by decide +kernel
theorem dX9_append_14 : decode cX9_append 14 = .ok (.if_icmp .ge 35, 3) := by decide +kernel
theorem dX9_append_17 : decode cX9_append 17 = .ok (.aload_n 0, 1) := by decide +kernel
theorem dX9_append_18 : decode cX9_append 18 = .ok (.getfield 9, 3) := by decide +kernel
theorem dX9_append_21 : decode cX9_append 21 = .ok (.aload_n 0, 1) := by decide +kernel
theorem dX9_append_22 : decode cX9_append 22 = .ok (.getfield 24, 3) := by decide +kernel
theorem dX9_append_25 : decode cX9_append 25 = .ok (.iload_n 1, 1) := by decide +kernel
theorem dX9_append_26 : decode cX9_append 26 = .ok (.iload_n 2, 1) := by decide +kernel
theorem dX9_append_27 : decode cX9_append 27 = .ok (.iushr, 1) := by decide +kernel
theorem dX9_append_28 : decode cX9_append 28 = .ok (.sipush 255, 3) := by decide +kernel
theorem dX9_append_31 : decode cX9_append 31 = .ok (.iand, 1) := by decide +kernel
theorem dX9_append_32 : decode cX9_append 32 = .ok (.iastore, 1) := by decide +kernel
theorem dX9_append_33 : decode cX9_append 33 = .ok (.aload_n 0, 1) := by decide +kernel
theorem dX9_append_34 : decode cX9_append 34 = .ok (.dup, 1) := by decide +kernel
theorem dX9_append_35 : decode cX9_append 35 = .ok (.getfield 24, 3) := by decide +kernel
theorem dX9_append_38 : decode cX9_append 38 = .ok (.iconst 1, 1) := by decide +kernel
theorem dX9_append_39 : decode cX9_append 39 = .ok (.iadd, 1) := by decide +kernel
theorem dX9_append_40 : decode cX9_append 40 = .ok (.putfield 24, 3) := by decide +kernel
theorem dX9_append_43 : decode cX9_append 43 = .ok (.iinc 2 (-8), 3) := by decide +kernel
theorem dX9_append_46 : decode cX9_append 46 = .ok (.goto (-43), 3) := by decide +kernel
theorem dX9_append_49 : decode cX9_append 49 = .ok (.return_, 1) := by decide +kernel
theorem dX9_open_0 : decode cX9_open 0 = .ok (.iload_n 1, 1) := by decide +kernel
theorem dX9_open_1 : decode cX9_open 1 = .ok (.aload_n 0, 1) := by decide +kernel
theorem dX9_open_2 : decode cX9_open 2 = .ok (.getfield 24, 3) := by decide +kernel
theorem dX9_open_5 : decode cX9_open 5 = .ok (.invokestatic 28, 3) := by decide +kernel
theorem dX9_open_8 : decode cX9_open 8 = .ok (.istore_n 2, 1) := by decide +kernel
theorem dX9_open_9 : decode cX9_open 9 = .ok (.aload_n 0, 1) := by decide +kernel
theorem dX9_open_10 : decode cX9_open 10 = .ok (.iconst 0, 1) := by decide +kernel
theorem dX9_open_11 : decode cX9_open 11 = .ok (.putfield 24, 3) := by decide +kernel
theorem dX9_open_14 : decode cX9_open 14 = .ok (.aload_n 0, 1) := by decide +kernel
theorem dX9_open_15 : decode cX9_open 15 = .ok (.iconst 0, 1) := by decide +kernel
theorem dX9_open_16 : decode cX9_open 16 = .ok (.putfield 34, 3) := by decide +kernel
theorem dX9_open_19 : decode cX9_open 19 = .ok (.aload_n 0, 1) := by decide +kernel
theorem dX9_open_20 : decode cX9_open 20 = .ok (.iconst 0, 1) := by decide +kernel
theorem dX9_open_21 : decode cX9_open 21 = .ok (.putfield 37, 3) := by decide +kernel
theorem dX9_open_24 : decode cX9_open 24 = .ok (.iconst 0, 1) := by decide +kernel
theorem dX9_open_25 : decode cX9_open 25 = .ok (.istore_n 3, 1) := by decide +kernel
theorem dX9_open_26 : decode cX9_open 26 = .ok (.iconst 0, 1) := by decide +kernel
theorem dX9_open_27 : decode cX9_open 27 = .ok (.istore 4, 2) := by decide +kernel
theorem dX9_open_29 : decode cX9_open 29 = .ok (.iload 4, 2) := by decide +kernel
theorem dX9_open_31 : decode cX9_open 31 = .ok (.sipush 700, 3) := by decide +kernel
theorem dX9_open_34 : decode cX9_open 34 = .ok (.if_icmp .ge 85, 3) := by decide +kernel
theorem dX9_open_37 : decode cX9_open 37 = .ok (.iload_n 3, 1) := by decide +kernel
theorem dX9_open_38 : decode cX9_open 38 = .ok (.iload_n 2, 1) := by decide +kernel
theorem dX9_open_39 : decode cX9_open 39 = .ok (.if_icmp .ge 80, 3) := by decide +kernel
theorem dX9_open_42 : decode cX9_open 42 = .ok (.aload_n 0, 1) := by decide +kernel
theorem dX9_open_43 : decode cX9_open 43 = .ok (.getfield 9, 3) := by decide +kernel
theorem dX9_open_46 : decode cX9_open 46 = .ok (.iload_n 3, 1) := by decide +kernel
theorem dX9_open_47 : decode cX9_open 47 = .ok (.iaload, 1) := by decide +kernel
theorem dX9_open_48 : decode cX9_open 48 = .ok (.istore 5, 2) := by decide +kernel
theorem dX9_open_50 : decode cX9_open 50 = .ok (.iload 5, 2) := by decide +kernel
theorem dX9_open_52 : decode cX9_open 52 = .ok (.bipush 32, 2) := by decide +kernel
theorem dX9_open_54 : decode cX9_open 54 = .ok (.if_icmp .eq 10, 3) := by decide +kernel
theorem dX9_open_57 : decode cX9_open 57 = .ok (.iload 5, 2) := by decide +kernel
theorem dX9_open_59 : decode cX9_open 59 = .ok (.bipush 10, 2) := by decide +kernel
theorem dX9_open_61 : decode cX9_open 61 = .ok (.if_icmp .ne 9, 3) := by decide +kernel
theorem dX9_open_64 : decode cX9_open 64 = .ok (.iinc 3 1, 3) := by decide +kernel
theorem dX9_open_67 : decode cX9_open 67 = .ok (.goto 46, 3) := by decide +kernel
theorem dX9_open_70 : decode cX9_open 70 = .ok (.iload 5, 2) := by decide +kernel
theorem dX9_open_72 : decode cX9_open 72 = .ok (.invokestatic 40, 3) := by decide +kernel
theorem dX9_open_75 : decode cX9_open 75 = .ok (.ifCond .eq 13, 3) := by decide +kernel
theorem dX9_open_78 : decode cX9_open 78 = .ok (.aload_n 0, 1) := by decide +kernel
theorem dX9_open_79 : decode cX9_open 79 = .ok (.iload_n 3, 1) := by decide +kernel
theorem dX9_open_80 : decode cX9_open 80 = .ok (.iload_n 2, 1) := by decide +kernel
theorem dX9_open_81 : decode cX9_open 81 = .ok (.invokevirtual 44, 3) := by decide +kernel
theorem dX9_open_84 : decode cX9_open 84 = .ok (.istore_n 3, 1) := by decide +kernel
theorem dX9_open_85 : decode cX9_open 85 = .ok (.goto 28, 3) := by decide +kernel
theorem dX9_open_88 : decode cX9_open 88 = .ok (.iload 5, 2) := by decide +kernel
theorem dX9_open_90 : decode cX9_open 90 = .ok (.invokestatic 47, 3) := by decide +kernel
theorem dX9_open_93 : decode cX9_open 93 = .ok (.ifCond .eq 13, 3) := by decide +kernel
theorem dX9_open_96 : decode cX9_open 96 = .ok (.aload_n 0, 1) := by decide +kernel
theorem dX9_open_97 : decode cX9_open 97 = .ok (.iload_n 3, 1) := by decide +kernel
theorem dX9_open_98 : decode cX9_open 98 = .ok (.iload_n 2, 1) := by decide +kernel
theorem dX9_open_99 : decode cX9_open 99 = .ok (.invokevirtual 50, 3) := by decide +kernel
theorem dX9_open_102 : decode cX9_open 102 = .ok (.istore_n 3, 1) := by decide +kernel
theorem dX9_open_103 : decode cX9_open 103 = .ok (.goto 10, 3) := by decide +kernel
theorem dX9_open_106 : decode cX9_open 106 = .ok (.aload_n 0, 1) := by decide +kernel
theorem dX9_open_107 : decode cX9_open 107 = .ok (.iload_n 3, 1) := by decide +kernel
theorem dX9_open_108 : decode cX9_open 108 = .ok (.iload_n 2, 1) := by decide +kernel
theorem dX9_open_109 : decode cX9_open 109 = .ok (.invokevirtual 53, 3) := by decide +kernel
theorem dX9_open_112 : decode cX9_open 112 = .ok (.istore_n 3, 1) := by decide +kernel
theorem dX9_open_113 : decode cX9_open 113 = .ok (.iinc 4 1, 3) := by decide +kernel
theorem dX9_open_116 : decode cX9_open 116 = .ok (.goto (-87), 3) := by decide +kernel
theorem dX9_open_119 : decode cX9_open 119 = .ok (.aload_n 0, 1) := by decide +kernel
theorem dX9_open_120 : decode cX9_open 120 = .ok (.bipush 37, 2) := by decide +kernel
theorem dX9_open_122 : decode cX9_open 122 = .ok (.iload_n 2, 1) := by decide +kernel
theorem dX9_open_123 : decode cX9_open 123 = .ok (.iconst 0, 1) := by decide +kernel
theorem dX9_open_124 : decode cX9_open 124 = .ok (.invokevirtual 56, 3) := by decide +kernel
theorem dX9_open_127 : decode cX9_open 127 = .ok (.return_, 1) := by decide +kernel
theorem dX9_add_0 : decode cX9_add 0 = .ok (.aload_n 0, 1) := by decide +kernel
theorem dX9_add_1 : decode cX9_add 1 = .ok (.getfield 34, 3) := by decide +kernel
theorem dX9_add_4 : decode cX9_add 4 = .ok (.sipush 700, 3) := by decide +kernel
theorem dX9_add_7 : decode cX9_add 7 = .ok (.if_icmp .gt 43, 3) := by decide +kernel
theorem dX9_add_10 : decode cX9_add 10 = .ok (.aload_n 0, 1) := by decide +kernel
theorem dX9_add_11 : decode cX9_add 11 = .ok (.getfield 15, 3) := by decide +kernel
theorem dX9_add_14 : decode cX9_add 14 = .ok (.aload_n 0, 1) := by decide +kernel
theorem dX9_add_15 : decode cX9_add 15 = .ok (.getfield 34, 3) := by decide +kernel
theorem dX9_add_18 : decode cX9_add 18 = .ok (.iload_n 1, 1) := by decide +kernel
theorem dX9_add_19 : decode cX9_add 19 = .ok (.iastore, 1) := by decide +kernel
theorem dX9_add_20 : decode cX9_add 20 = .ok (.aload_n 0, 1) := by decide +kernel
theorem dX9_add_21 : decode cX9_add 21 = .ok (.getfield 18, 3) := by decide +kernel
theorem dX9_add_24 : decode cX9_add 24 = .ok (.aload_n 0, 1) := by decide +kernel
theorem dX9_add_25 : decode cX9_add 25 = .ok (.getfield 34, 3) := by decide +kernel
theorem dX9_add_28 : decode cX9_add 28 = .ok (.iload_n 2, 1) := by decide +kernel
theorem dX9_add_29 : decode cX9_add 29 = .ok (.iastore, 1) := by decide +kernel
theorem dX9_add_30 : decode cX9_add 30 = .ok (.aload_n 0, 1) := by decide +kernel
theorem dX9_add_31 : decode cX9_add 31 = .ok (.getfield 21, 3) := by decide +kernel
theorem dX9_add_34 : decode cX9_add 34 = .ok (.aload_n 0, 1) := by decide +kernel
theorem dX9_add_35 : decode cX9_add 35 = .ok (.getfield 34, 3) := by decide +kernel
theorem dX9_add_38 : decode cX9_add 38 = .ok (.iload_n 3, 1) := by decide +kernel
theorem dX9_add_39 : decode cX9_add 39 = .ok (.iastore, 1) := by decide +kernel
theorem dX9_add_40 : decode cX9_add 40 = .ok (.aload_n 0, 1) := by decide +kernel
theorem dX9_add_41 : decode cX9_add 41 = .ok (.dup, 1) := by decide +kernel
theorem dX9_add_42 : decode cX9_add 42 = .ok (.getfield 34, 3) := by decide +kernel
theorem dX9_add_45 : decode cX9_add 45 = .ok (.iconst 1, 1) := by decide +kernel
theorem dX9_add_46 : decode cX9_add 46 = .ok (.iadd, 1) := by decide +kernel
theorem dX9_add_47 : decode cX9_add 47 = .ok (.putfield 34, 3) := by decide +kernel
theorem dX9_add_50 : decode cX9_add 50 = .ok (.return_, 1) := by decide +kernel
theorem dX9_isLetter_0 : decode cX9_isLetter 0 = .ok (.iload_n 0, 1) := by decide +kernel
theorem dX9_isLetter_1 : decode cX9_isLetter 1 = .ok (.bipush 97, 2) := by decide +kernel
theorem dX9_isLetter_3 : decode cX9_isLetter 3 = .ok (.if_icmp .lt 13, 3) := by decide +kernel
theorem dX9_isLetter_6 : decode cX9_isLetter 6 = .ok (.iload_n 0, 1) := by decide +kernel
theorem dX9_isLetter_7 : decode cX9_isLetter 7 = .ok (.bipush 122, 2) := by decide +kernel
theorem dX9_isLetter_9 : decode cX9_isLetter 9 = .ok (.if_icmp .gt 7, 3) := by decide +kernel
theorem dX9_isLetter_12 : decode cX9_isLetter 12 = .ok (.iconst 1, 1) := by decide +kernel
theorem dX9_isLetter_13 : decode cX9_isLetter 13 = .ok (.goto 4, 3) := by decide +kernel
theorem dX9_isLetter_16 : decode cX9_isLetter 16 = .ok (.iconst 0, 1) := by decide +kernel
theorem dX9_isLetter_17 : decode cX9_isLetter 17 = .ok (.ireturn, 1) := by decide +kernel
theorem dX9_isDigit_0 : decode cX9_isDigit 0 = .ok (.iload_n 0, 1) := by decide +kernel
theorem dX9_isDigit_1 : decode cX9_isDigit 1 = .ok (.bipush 48, 2) := by decide +kernel
theorem dX9_isDigit_3 : decode cX9_isDigit 3 = .ok (.if_icmp .lt 13, 3) := by decide +kernel
theorem dX9_isDigit_6 : decode cX9_isDigit 6 = .ok (.iload_n 0, 1) := by decide +kernel
theorem dX9_isDigit_7 : decode cX9_isDigit 7 = .ok (.bipush 57, 2) := by decide +kernel
theorem dX9_isDigit_9 : decode cX9_isDigit 9 = .ok (.if_icmp .gt 7, 3) := by decide +kernel
theorem dX9_isDigit_12 : decode cX9_isDigit 12 = .ok (.iconst 1, 1) := by decide +kernel
theorem dX9_isDigit_13 : decode cX9_isDigit 13 = .ok (.goto 4, 3) := by decide +kernel
theorem dX9_isDigit_16 : decode cX9_isDigit 16 = .ok (.iconst 0, 1) := by decide +kernel
theorem dX9_isDigit_17 : decode cX9_isDigit 17 = .ok (.ireturn, 1) := by decide +kernel
theorem dX9_addWord_0 : decode cX9_addWord 0 = .ok (.iconst 0, 1) := by decide +kernel
theorem dX9_addWord_1 : decode cX9_addWord 1 = .ok (.istore_n 3, 1) := by decide +kernel
theorem dX9_addWord_2 : decode cX9_addWord 2 = .ok (.iload_n 1, 1) := by decide +kernel
theorem dX9_addWord_3 : decode cX9_addWord 3 = .ok (.istore 4, 2) := by decide +kernel
theorem dX9_addWord_5 : decode cX9_addWord 5 = .ok (.iload 4, 2) := by decide +kernel
theorem dX9_addWord_7 : decode cX9_addWord 7 = .ok (.iload_n 2, 1) := by decide +kernel
theorem dX9_addWord_8 : decode cX9_addWord 8 = .ok (.if_icmp .ge 38, 3) := by decide +kernel
theorem dX9_addWord_11 : decode cX9_addWord 11 = .ok (.aload_n 0, 1) := by decide +kernel
theorem dX9_addWord_12 : decode cX9_addWord 12 = .ok (.getfield 9, 3) := by decide +kernel
theorem dX9_addWord_15 : decode cX9_addWord 15 = .ok (.iload 4, 2) := by decide +kernel
theorem dX9_addWord_17 : decode cX9_addWord 17 = .ok (.iaload, 1) := by decide +kernel
theorem dX9_addWord_18 : decode cX9_addWord 18 = .ok (.invokestatic 40, 3) := by decide +kernel
theorem dX9_addWord_21 : decode cX9_addWord 21 = .ok (.ifCond .eq 25, 3) := by decide +kernel
theorem dX9_addWord_24 : decode cX9_addWord 24 = .ok (.iload_n 3, 1) := by decide +kernel
theorem dX9_addWord_25 : decode cX9_addWord 25 = .ok (.iload 4, 2) := by decide +kernel
theorem dX9_addWord_27 : decode cX9_addWord 27 = .ok (.iload_n 1, 1) := by decide +kernel
theorem dX9_addWord_28 : decode cX9_addWord 28 = .ok (.isub, 1) := by decide +kernel
theorem dX9_addWord_29 : decode cX9_addWord 29 = .ok (.aload_n 0, 1) := by decide +kernel
theorem dX9_addWord_30 : decode cX9_addWord 30 = .ok (.getfield 9, 3) := by decide +kernel
theorem dX9_addWord_33 : decode cX9_addWord 33 = .ok (.iload 4, 2) := by decide +kernel
theorem dX9_addWord_35 : decode cX9_addWord 35 = .ok (.iaload, 1) := by decide +kernel
theorem dX9_addWord_36 : decode cX9_addWord 36 = .ok (.invokestatic 60, 3) := by decide +kernel
theorem dX9_addWord_39 : decode cX9_addWord 39 = .ok (.istore_n 3, 1) := by decide +kernel
theorem dX9_addWord_40 : decode cX9_addWord 40 = .ok (.iinc 4 1, 3) := by decide +kernel
theorem dX9_addWord_43 : decode cX9_addWord 43 = .ok (.goto (-38), 3) := by decide +kernel
theorem dX9_addWord_46 : decode cX9_addWord 46 = .ok (.aload_n 0, 1) := by decide +kernel
theorem dX9_addWord_47 : decode cX9_addWord 47 = .ok (.iload 4, 2) := by decide +kernel
theorem dX9_addWord_49 : decode cX9_addWord 49 = .ok (.iload_n 1, 1) := by decide +kernel
theorem dX9_addWord_50 : decode cX9_addWord 50 = .ok (.isub, 1) := by decide +kernel
theorem dX9_addWord_51 : decode cX9_addWord 51 = .ok (.bipush 6, 2) := by decide +kernel
theorem dX9_addWord_53 : decode cX9_addWord 53 = .ok (.if_icmp .le 8, 3) := by decide +kernel
theorem dX9_addWord_56 : decode cX9_addWord 56 = .ok (.bipush 38, 2) := by decide +kernel
theorem dX9_addWord_58 : decode cX9_addWord 58 = .ok (.goto 7, 3) := by decide +kernel
theorem dX9_addWord_61 : decode cX9_addWord 61 = .ok (.iload_n 3, 1) := by decide +kernel
theorem dX9_addWord_62 : decode cX9_addWord 62 = .ok (.invokestatic 64, 3) := by decide +kernel
theorem dX9_addWord_65 : decode cX9_addWord 65 = .ok (.iload_n 1, 1) := by decide +kernel
theorem dX9_addWord_66 : decode cX9_addWord 66 = .ok (.iload_n 3, 1) := by decide +kernel
theorem dX9_addWord_67 : decode cX9_addWord 67 = .ok (.invokevirtual 56, 3) := by decide +kernel
theorem dX9_addWord_70 : decode cX9_addWord 70 = .ok (.iload 4, 2) := by decide +kernel
theorem dX9_addWord_72 : decode cX9_addWord 72 = .ok (.ireturn, 1) := by decide +kernel
theorem dX9_packed_0 : decode cX9_packed 0 = .ok (.iload_n 1, 1) := by decide +kernel
theorem dX9_packed_1 : decode cX9_packed 1 = .ok (.bipush 6, 2) := by decide +kernel
theorem dX9_packed_3 : decode cX9_packed 3 = .ok (.if_icmp .ge 20, 3) := by decide +kernel
theorem dX9_packed_6 : decode cX9_packed 6 = .ok (.iload_n 0, 1) := by decide +kernel
theorem dX9_packed_7 : decode cX9_packed 7 = .ok (.iload_n 2, 1) := by decide +kernel
theorem dX9_packed_8 : decode cX9_packed 8 = .ok (.bipush 97, 2) := by decide +kernel
theorem dX9_packed_10 : decode cX9_packed 10 = .ok (.isub, 1) := by decide +kernel
theorem dX9_packed_11 : decode cX9_packed 11 = .ok (.iconst 1, 1) := by decide +kernel
theorem dX9_packed_12 : decode cX9_packed 12 = .ok (.iadd, 1) := by decide +kernel
theorem dX9_packed_13 : decode cX9_packed 13 = .ok (.iconst 5, 1) := by decide +kernel
theorem dX9_packed_14 : decode cX9_packed 14 = .ok (.iconst 5, 1) := by decide +kernel
theorem dX9_packed_15 : decode cX9_packed 15 = .ok (.iload_n 1, 1) := by decide +kernel
theorem dX9_packed_16 : decode cX9_packed 16 = .ok (.isub, 1) := by decide +kernel
theorem dX9_packed_17 : decode cX9_packed 17 = .ok (.imul, 1) := by decide +kernel
theorem dX9_packed_18 : decode cX9_packed 18 = .ok (.ishl, 1) := by decide +kernel
theorem dX9_packed_19 : decode cX9_packed 19 = .ok (.ior, 1) := by decide +kernel
theorem dX9_packed_20 : decode cX9_packed 20 = .ok (.goto 4, 3) := by decide +kernel
theorem dX9_packed_23 : decode cX9_packed 23 = .ok (.iload_n 0, 1) := by decide +kernel
theorem dX9_packed_24 : decode cX9_packed 24 = .ok (.ireturn, 1) := by decide +kernel
theorem dX9_kindOfWord_0 : decode cX9_kindOfWord 0 = .ok (.iconst 0, 1) := by decide +kernel
theorem dX9_kindOfWord_1 : decode cX9_kindOfWord 1 = .ok (.istore_n 1, 1) := by decide +kernel
theorem dX9_kindOfWord_2 : decode cX9_kindOfWord 2 = .ok (.iconst 0, 1) := by decide +kernel
theorem dX9_kindOfWord_3 : decode cX9_kindOfWord 3 = .ok (.istore_n 2, 1) := by decide +kernel
theorem dX9_kindOfWord_4 : decode cX9_kindOfWord 4 = .ok (.iconst 0, 1) := by decide +kernel
theorem dX9_kindOfWord_5 : decode cX9_kindOfWord 5 = .ok (.istore_n 3, 1) := by decide +kernel
theorem dX9_kindOfWord_6 : decode cX9_kindOfWord 6 = .ok (.iconst 0, 1) := by decide +kernel
theorem dX9_kindOfWord_7 : decode cX9_kindOfWord 7 = .ok (.istore 4, 2) := by decide +kernel
theorem dX9_kindOfWord_9 : decode cX9_kindOfWord 9 = .ok (.iload 4, 2) := by decide +kernel
theorem dX9_kindOfWord_11 : decode cX9_kindOfWord 11 = .ok (.ldc 68, 2) := by decide +kernel
theorem dX9_kindOfWord_13 : decode cX9_kindOfWord 13 = .ok (.invokevirtual 70, 3) := by decide +kernel
theorem dX9_kindOfWord_16 : decode cX9_kindOfWord 16 = .ok (.if_icmp .ge 57, 3) := by decide +kernel
theorem dX9_kindOfWord_19 : decode cX9_kindOfWord 19 = .ok (.ldc 68, 2) := by decide +kernel
theorem dX9_kindOfWord_21 : decode cX9_kindOfWord 21 = .ok (.iload 4, 2) := by decide +kernel
theorem dX9_kindOfWord_23 : decode cX9_kindOfWord 23 = .ok (.invokevirtual 76, 3) := by decide +kernel
theorem dX9_kindOfWord_26 : decode cX9_kindOfWord 26 = .ok (.bipush 32, 2) := by decide +kernel
theorem dX9_kindOfWord_28 : decode cX9_kindOfWord 28 = .ok (.if_icmp .eq 22, 3) := by decide +kernel
theorem dX9_kindOfWord_31 : decode cX9_kindOfWord 31 = .ok (.iload_n 3, 1) := by decide +kernel
theorem dX9_kindOfWord_32 : decode cX9_kindOfWord 32 = .ok (.iload 4, 2) := by decide +kernel
theorem dX9_kindOfWord_34 : decode cX9_kindOfWord 34 = .ok (.iload_n 2, 1) := by decide +kernel
theorem dX9_kindOfWord_35 : decode cX9_kindOfWord 35 = .ok (.isub, 1) := by decide +kernel
theorem dX9_kindOfWord_36 : decode cX9_kindOfWord 36 = .ok (.ldc 68, 2) := by decide +kernel
theorem dX9_kindOfWord_38 : decode cX9_kindOfWord 38 = .ok (.iload 4, 2) := by decide +kernel
theorem dX9_kindOfWord_40 : decode cX9_kindOfWord 40 = .ok (.invokevirtual 76, 3) := by decide +kernel
theorem dX9_kindOfWord_43 : decode cX9_kindOfWord 43 = .ok (.invokestatic 60, 3) := by decide +kernel
theorem dX9_kindOfWord_46 : decode cX9_kindOfWord 46 = .ok (.istore_n 3, 1) := by decide +kernel
theorem dX9_kindOfWord_47 : decode cX9_kindOfWord 47 = .ok (.goto 20, 3) := by decide +kernel
theorem dX9_kindOfWord_50 : decode cX9_kindOfWord 50 = .ok (.iload_n 3, 1) := by decide +kernel
theorem dX9_kindOfWord_51 : decode cX9_kindOfWord 51 = .ok (.iload_n 0, 1) := by decide +kernel
theorem dX9_kindOfWord_52 : decode cX9_kindOfWord 52 = .ok (.if_icmp .ne 5, 3) := by decide +kernel
theorem dX9_kindOfWord_55 : decode cX9_kindOfWord 55 = .ok (.iload_n 1, 1) := by decide +kernel
theorem dX9_kindOfWord_56 : decode cX9_kindOfWord 56 = .ok (.ireturn, 1) := by decide +kernel
theorem dX9_kindOfWord_57 : decode cX9_kindOfWord 57 = .ok (.iinc 1 1, 3) := by decide +kernel
theorem dX9_kindOfWord_60 : decode cX9_kindOfWord 60 = .ok (.iload 4, 2) := by decide +kernel
theorem dX9_kindOfWord_62 : decode cX9_kindOfWord 62 = .ok (.iconst 1, 1) := by decide +kernel
theorem dX9_kindOfWord_63 : decode cX9_kindOfWord 63 = .ok (.iadd, 1) := by decide +kernel
theorem dX9_kindOfWord_64 : decode cX9_kindOfWord 64 = .ok (.istore_n 2, 1) := by decide +kernel
theorem dX9_kindOfWord_65 : decode cX9_kindOfWord 65 = .ok (.iconst 0, 1) := by decide +kernel
theorem dX9_kindOfWord_66 : decode cX9_kindOfWord 66 = .ok (.istore_n 3, 1) := by decide +kernel
theorem dX9_kindOfWord_67 : decode cX9_kindOfWord 67 = .ok (.iinc 4 1, 3) := by decide +kernel
theorem dX9_kindOfWord_70 : decode cX9_kindOfWord 70 = .ok (.goto (-61), 3) := by decide +kernel
theorem dX9_kindOfWord_73 : decode cX9_kindOfWord 73 = .ok (.bipush 22, 2) := by decide +kernel
theorem dX9_kindOfWord_75 : decode cX9_kindOfWord 75 = .ok (.ireturn, 1) := by decide +kernel
theorem dX9_addNumber_0 : decode cX9_addNumber 0 = .ok (.iconst 0, 1) := by decide +kernel
theorem dX9_addNumber_1 : decode cX9_addNumber 1 = .ok (.istore_n 3, 1) := by decide +kernel
theorem dX9_addNumber_2 : decode cX9_addNumber 2 = .ok (.iload_n 1, 1) := by decide +kernel
theorem dX9_addNumber_3 : decode cX9_addNumber 3 = .ok (.istore 4, 2) := by decide +kernel
theorem dX9_addNumber_5 : decode cX9_addNumber 5 = .ok (.iload 4, 2) := by decide +kernel
theorem dX9_addNumber_7 : decode cX9_addNumber 7 = .ok (.iload_n 2, 1) := by decide +kernel
theorem dX9_addNumber_8 : decode cX9_addNumber 8 = .ok (.if_icmp .ge 43, 3) := by decide +kernel
theorem dX9_addNumber_11 : decode cX9_addNumber 11 = .ok (.aload_n 0, 1) := by decide +kernel
theorem dX9_addNumber_12 : decode cX9_addNumber 12 = .ok (.getfield 9, 3) := by decide +kernel
theorem dX9_addNumber_15 : decode cX9_addNumber 15 = .ok (.iload 4, 2) := by decide +kernel
theorem dX9_addNumber_17 : decode cX9_addNumber 17 = .ok (.iaload, 1) := by decide +kernel
theorem dX9_addNumber_18 : decode cX9_addNumber 18 = .ok (.invokestatic 47, 3) := by decide +kernel
theorem dX9_addNumber_21 : decode cX9_addNumber 21 = .ok (.ifCond .eq 30, 3) := by decide +kernel
theorem dX9_addNumber_24 : decode cX9_addNumber 24 = .ok (.ldc 80, 2) := by decide +kernel
theorem dX9_addNumber_26 : decode cX9_addNumber 26 = .ok (.iload_n 3, 1) := by decide +kernel
theorem dX9_addNumber_27 : decode cX9_addNumber 27 = .ok (.bipush 10, 2) := by decide +kernel
theorem dX9_addNumber_29 : decode cX9_addNumber 29 = .ok (.imul, 1) := by decide +kernel
theorem dX9_addNumber_30 : decode cX9_addNumber 30 = .ok (.aload_n 0, 1) := by decide +kernel
theorem dX9_addNumber_31 : decode cX9_addNumber 31 = .ok (.getfield 9, 3) := by decide +kernel
theorem dX9_addNumber_34 : decode cX9_addNumber 34 = .ok (.iload 4, 2) := by decide +kernel
theorem dX9_addNumber_36 : decode cX9_addNumber 36 = .ok (.iaload, 1) := by decide +kernel
theorem dX9_addNumber_37 : decode cX9_addNumber 37 = .ok (.iadd, 1) := by decide +kernel
theorem dX9_addNumber_38 : decode cX9_addNumber 38 = .ok (.bipush 48, 2) := by decide +kernel
theorem dX9_addNumber_40 : decode cX9_addNumber 40 = .ok (.isub, 1) := by decide +kernel
theorem dX9_addNumber_41 : decode cX9_addNumber 41 = .ok (.invokestatic 28, 3) := by decide +kernel
theorem dX9_addNumber_44 : decode cX9_addNumber 44 = .ok (.istore_n 3, 1) := by decide +kernel
theorem dX9_addNumber_45 : decode cX9_addNumber 45 = .ok (.iinc 4 1, 3) := by decide +kernel
theorem dX9_addNumber_48 : decode cX9_addNumber 48 = .ok (.goto (-43), 3) := by decide +kernel
theorem dX9_addNumber_51 : decode cX9_addNumber 51 = .ok (.aload_n 0, 1) := by decide +kernel
theorem dX9_addNumber_52 : decode cX9_addNumber 52 = .ok (.bipush 23, 2) := by decide +kernel
theorem dX9_addNumber_54 : decode cX9_addNumber 54 = .ok (.iload_n 1, 1) := by decide +kernel
theorem dX9_addNumber_55 : decode cX9_addNumber 55 = .ok (.iload_n 3, 1) := by decide +kernel
theorem dX9_addNumber_56 : decode cX9_addNumber 56 = .ok (.invokevirtual 56, 3) := by decide +kernel
theorem dX9_addNumber_59 : decode cX9_addNumber 59 = .ok (.iload 4, 2) := by decide +kernel
theorem dX9_addNumber_61 : decode cX9_addNumber 61 = .ok (.ireturn, 1) := by decide +kernel
theorem dX9_addSign_0 : decode cX9_addSign 0 = .ok (.ldc 81, 2) := by decide +kernel
theorem dX9_addSign_2 : decode cX9_addSign 2 = .ok (.aload_n 0, 1) := by decide +kernel
theorem dX9_addSign_3 : decode cX9_addSign 3 = .ok (.getfield 9, 3) := by decide +kernel
theorem dX9_addSign_6 : decode cX9_addSign 6 = .ok (.iload_n 1, 1) := by decide +kernel
theorem dX9_addSign_7 : decode cX9_addSign 7 = .ok (.iaload, 1) := by decide +kernel
theorem dX9_addSign_8 : decode cX9_addSign 8 = .ok (.i2c, 1) := by decide +kernel
theorem dX9_addSign_9 : decode cX9_addSign 9 = .ok (.invokevirtual 83, 3) := by decide +kernel
theorem dX9_addSign_12 : decode cX9_addSign 12 = .ok (.istore_n 3, 1) := by decide +kernel
theorem dX9_addSign_13 : decode cX9_addSign 13 = .ok (.iload_n 3, 1) := by decide +kernel
theorem dX9_addSign_14 : decode cX9_addSign 14 = .ok (.ifCond .ge 8, 3) := by decide +kernel
theorem dX9_addSign_17 : decode cX9_addSign 17 = .ok (.bipush 38, 2) := by decide +kernel
theorem dX9_addSign_19 : decode cX9_addSign 19 = .ok (.goto 7, 3) := by decide +kernel
theorem dX9_addSign_22 : decode cX9_addSign 22 = .ok (.bipush 24, 2) := by decide +kernel
theorem dX9_addSign_24 : decode cX9_addSign 24 = .ok (.iload_n 3, 1) := by decide +kernel
theorem dX9_addSign_25 : decode cX9_addSign 25 = .ok (.iadd, 1) := by decide +kernel
theorem dX9_addSign_26 : decode cX9_addSign 26 = .ok (.istore 4, 2) := by decide +kernel
theorem dX9_addSign_28 : decode cX9_addSign 28 = .ok (.iload_n 1, 1) := by decide +kernel
theorem dX9_addSign_29 : decode cX9_addSign 29 = .ok (.iconst 1, 1) := by decide +kernel
theorem dX9_addSign_30 : decode cX9_addSign 30 = .ok (.iadd, 1) := by decide +kernel
theorem dX9_addSign_31 : decode cX9_addSign 31 = .ok (.iload_n 2, 1) := by decide +kernel
theorem dX9_addSign_32 : decode cX9_addSign 32 = .ok (.if_icmp .ge 19, 3) := by decide +kernel
theorem dX9_addSign_35 : decode cX9_addSign 35 = .ok (.iload 4, 2) := by decide +kernel
theorem dX9_addSign_37 : decode cX9_addSign 37 = .ok (.aload_n 0, 1) := by decide +kernel
theorem dX9_addSign_38 : decode cX9_addSign 38 = .ok (.getfield 9, 3) := by decide +kernel
theorem dX9_addSign_41 : decode cX9_addSign 41 = .ok (.iload_n 1, 1) := by decide +kernel
theorem dX9_addSign_42 : decode cX9_addSign 42 = .ok (.iconst 1, 1) := by decide +kernel
theorem dX9_addSign_43 : decode cX9_addSign 43 = .ok (.iadd, 1) := by decide +kernel
theorem dX9_addSign_44 : decode cX9_addSign 44 = .ok (.iaload, 1) := by decide +kernel
theorem dX9_addSign_45 : decode cX9_addSign 45 = .ok (.invokestatic 86, 3) := by decide +kernel
theorem dX9_addSign_48 : decode cX9_addSign 48 = .ok (.goto 5, 3) := by decide +kernel
theorem dX9_addSign_51 : decode cX9_addSign 51 = .ok (.iload 4, 2) := by decide +kernel
theorem dX9_addSign_53 : decode cX9_addSign 53 = .ok (.istore 5, 2) := by decide +kernel
theorem dX9_addSign_55 : decode cX9_addSign 55 = .ok (.aload_n 0, 1) := by decide +kernel
theorem dX9_addSign_56 : decode cX9_addSign 56 = .ok (.iload 5, 2) := by decide +kernel
theorem dX9_addSign_58 : decode cX9_addSign 58 = .ok (.iload_n 1, 1) := by decide +kernel
theorem dX9_addSign_59 : decode cX9_addSign 59 = .ok (.iconst 0, 1) := by decide +kernel
theorem dX9_addSign_60 : decode cX9_addSign 60 = .ok (.invokevirtual 56, 3) := by decide +kernel
theorem dX9_addSign_63 : decode cX9_addSign 63 = .ok (.iload 5, 2) := by decide +kernel
theorem dX9_addSign_65 : decode cX9_addSign 65 = .ok (.iload 4, 2) := by decide +kernel
theorem dX9_addSign_67 : decode cX9_addSign 67 = .ok (.if_icmp .ne 9, 3) := by decide +kernel
theorem dX9_addSign_70 : decode cX9_addSign 70 = .ok (.iload_n 1, 1) := by decide +kernel
theorem dX9_addSign_71 : decode cX9_addSign 71 = .ok (.iconst 1, 1) := by decide +kernel
theorem dX9_addSign_72 : decode cX9_addSign 72 = .ok (.iadd, 1) := by decide +kernel
theorem dX9_addSign_73 : decode cX9_addSign 73 = .ok (.goto 6, 3) := by decide +kernel
theorem dX9_addSign_76 : decode cX9_addSign 76 = .ok (.iload_n 1, 1) := by decide +kernel
theorem dX9_addSign_77 : decode cX9_addSign 77 = .ok (.iconst 2, 1) := by decide +kernel
theorem dX9_addSign_78 : decode cX9_addSign 78 = .ok (.iadd, 1) := by decide +kernel
theorem dX9_addSign_79 : decode cX9_addSign 79 = .ok (.ireturn, 1) := by decide +kernel
theorem dX9_withSecond_0 : decode cX9_withSecond 0 = .ok (.iload_n 0, 1) := by decide +kernel
theorem dX9_withSecond_1 : decode cX9_withSecond 1 = .ok (.bipush 32, 2) := by decide +kernel
theorem dX9_withSecond_3 : decode cX9_withSecond 3 = .ok (.if_icmp .ne 12, 3) := by decide +kernel
theorem dX9_withSecond_6 : decode cX9_withSecond 6 = .ok (.iload_n 1, 1) := by decide +kernel
theorem dX9_withSecond_7 : decode cX9_withSecond 7 = .ok (.bipush 62, 2) := by decide +kernel
theorem dX9_withSecond_9 : decode cX9_withSecond 9 = .ok (.if_icmp .ne 6, 3) := by decide +kernel
theorem dX9_withSecond_12 : decode cX9_withSecond 12 = .ok (.bipush 36, 2) := by decide +kernel
theorem dX9_withSecond_14 : decode cX9_withSecond 14 = .ok (.ireturn, 1) := by decide +kernel
theorem dX9_withSecond_15 : decode cX9_withSecond 15 = .ok (.iload_n 0, 1) := by decide +kernel
theorem dX9_withSecond_16 : decode cX9_withSecond 16 = .ok (.bipush 32, 2) := by decide +kernel
theorem dX9_withSecond_18 : decode cX9_withSecond 18 = .ok (.if_icmp .ne 12, 3) := by decide +kernel
theorem dX9_withSecond_21 : decode cX9_withSecond 21 = .ok (.iload_n 1, 1) := by decide +kernel
theorem dX9_withSecond_22 : decode cX9_withSecond 22 = .ok (.bipush 61, 2) := by decide +kernel
theorem dX9_withSecond_24 : decode cX9_withSecond 24 = .ok (.if_icmp .ne 6, 3) := by decide +kernel
theorem dX9_withSecond_27 : decode cX9_withSecond 27 = .ok (.bipush 34, 2) := by decide +kernel
theorem dX9_withSecond_29 : decode cX9_withSecond 29 = .ok (.ireturn, 1) := by decide +kernel
theorem dX9_withSecond_30 : decode cX9_withSecond 30 = .ok (.iload_n 0, 1) := by decide +kernel
theorem dX9_withSecond_31 : decode cX9_withSecond 31 = .ok (.bipush 33, 2) := by decide +kernel
theorem dX9_withSecond_33 : decode cX9_withSecond 33 = .ok (.if_icmp .ne 14, 3) := by decide +kernel
theorem dX9_withSecond_36 : decode cX9_withSecond 36 = .ok (.iload_n 1, 1) := by decide +kernel
theorem dX9_withSecond_37 : decode cX9_withSecond 37 = .ok (.bipush 61, 2) := by decide +kernel
theorem dX9_withSecond_39 : decode cX9_withSecond 39 = .ok (.if_icmp .ne 8, 3) := by decide +kernel
theorem dX9_withSecond_42 : decode cX9_withSecond 42 = .ok (.bipush 35, 2) := by decide +kernel
theorem dX9_withSecond_44 : decode cX9_withSecond 44 = .ok (.goto 4, 3) := by decide +kernel
theorem dX9_withSecond_47 : decode cX9_withSecond 47 = .ok (.iload_n 0, 1) := by decide +kernel
theorem dX9_withSecond_48 : decode cX9_withSecond 48 = .ok (.ireturn, 1) := by decide +kernel
theorem dX9_kind_0 : decode cX9_kind 0 = .ok (.aload_n 0, 1) := by decide +kernel
theorem dX9_kind_1 : decode cX9_kind 1 = .ok (.getfield 15, 3) := by decide +kernel
theorem dX9_kind_4 : decode cX9_kind 4 = .ok (.aload_n 0, 1) := by decide +kernel
theorem dX9_kind_5 : decode cX9_kind 5 = .ok (.getfield 37, 3) := by decide +kernel
theorem dX9_kind_8 : decode cX9_kind 8 = .ok (.iaload, 1) := by decide +kernel
theorem dX9_kind_9 : decode cX9_kind 9 = .ok (.ireturn, 1) := by decide +kernel
theorem dX9_place_0 : decode cX9_place 0 = .ok (.aload_n 0, 1) := by decide +kernel
theorem dX9_place_1 : decode cX9_place 1 = .ok (.getfield 18, 3) := by decide +kernel
theorem dX9_place_4 : decode cX9_place 4 = .ok (.aload_n 0, 1) := by decide +kernel
theorem dX9_place_5 : decode cX9_place 5 = .ok (.getfield 37, 3) := by decide +kernel
theorem dX9_place_8 : decode cX9_place 8 = .ok (.iaload, 1) := by decide +kernel
theorem dX9_place_9 : decode cX9_place 9 = .ok (.ireturn, 1) := by decide +kernel
theorem dX9_value_0 : decode cX9_value 0 = .ok (.aload_n 0, 1) := by decide +kernel
theorem dX9_value_1 : decode cX9_value 1 = .ok (.getfield 21, 3) := by decide +kernel
theorem dX9_value_4 : decode cX9_value 4 = .ok (.aload_n 0, 1) := by decide +kernel
theorem dX9_value_5 : decode cX9_value 5 = .ok (.getfield 37, 3) := by decide +kernel
theorem dX9_value_8 : decode cX9_value 8 = .ok (.iaload, 1) := by decide +kernel
theorem dX9_value_9 : decode cX9_value 9 = .ok (.ireturn, 1) := by decide +kernel
theorem dX9_advance_0 : decode cX9_advance 0 = .ok (.aload_n 0, 1) := by decide +kernel
theorem dX9_advance_1 : decode cX9_advance 1 = .ok (.getfield 37, 3) := by decide +kernel
theorem dX9_advance_4 : decode cX9_advance 4 = .ok (.iconst 1, 1) := by decide +kernel
theorem dX9_advance_5 : decode cX9_advance 5 = .ok (.iadd, 1) := by decide +kernel
theorem dX9_advance_6 : decode cX9_advance 6 = .ok (.aload_n 0, 1) := by decide +kernel
theorem dX9_advance_7 : decode cX9_advance 7 = .ok (.getfield 34, 3) := by decide +kernel
theorem dX9_advance_10 : decode cX9_advance 10 = .ok (.if_icmp .ge 13, 3) := by decide +kernel
theorem dX9_advance_13 : decode cX9_advance 13 = .ok (.aload_n 0, 1) := by decide +kernel
theorem dX9_advance_14 : decode cX9_advance 14 = .ok (.dup, 1) := by decide +kernel
theorem dX9_advance_15 : decode cX9_advance 15 = .ok (.getfield 37, 3) := by decide +kernel
theorem dX9_advance_18 : decode cX9_advance 18 = .ok (.iconst 1, 1) := by decide +kernel
theorem dX9_advance_19 : decode cX9_advance 19 = .ok (.iadd, 1) := by decide +kernel
theorem dX9_advance_20 : decode cX9_advance 20 = .ok (.putfield 37, 3) := by decide +kernel
theorem dX9_advance_23 : decode cX9_advance 23 = .ok (.return_, 1) := by decide +kernel
