theorem dX5_isWord_46 : decode cX5_isWord 46 = .ok (.aload_n 1, 1) := by decide +kernel
theorem dX5_isWord_47 : decode cX5_isWord 47 = .ok (.iload_n 2, 1) := by decide +kernel
theorem dX5_isWord_48 : decode cX5_isWord 48 = .ok (.invokevirtual 154, 3) := by decide +kernel
theorem dX5_isWord_51 : decode cX5_isWord 51 = .ok (.if_icmp .eq 5, 3) := by decide +kernel
theorem dX5_isWord_54 : decode cX5_isWord 54 = .ok (.iconst 0, 1) := by decide +kernel
theorem dX5_isWord_55 : decode cX5_isWord 55 = .ok (.ireturn, 1) := by decide +kernel
theorem dX5_isWord_56 : decode cX5_isWord 56 = .ok (.iinc 2 1, 3) := by decide +kernel
theorem dX5_isWord_59 : decode cX5_isWord 59 = .ok (.goto (-31), 3) := by decide +kernel
theorem dX5_isWord_62 : decode cX5_isWord 62 = .ok (.iconst 1, 1) := by decide +kernel
theorem dX5_isWord_63 : decode cX5_isWord 63 = .ok (.ireturn, 1) := by decide +kernel
theorem dX5_advance_0 : decode cX5_advance 0 = .ok (.aload_n 0, 1) := by decide +kernel
theorem dX5_advance_1 : decode cX5_advance 1 = .ok (.getfield 54, 3) := by decide +kernel
theorem dX5_advance_4 : decode cX5_advance 4 = .ok (.aload_n 0, 1) := by decide +kernel
theorem dX5_advance_5 : decode cX5_advance 5 = .ok (.getfield 39, 3) := by decide +kernel
theorem dX5_advance_8 : decode cX5_advance 8 = .ok (.if_icmp .ge 30, 3) := by decide +kernel
theorem dX5_advance_11 : decode cX5_advance 11 = .ok (.aload_n 0, 1) := by decide +kernel
theorem dX5_advance_12 : decode cX5_advance 12 = .ok (.aload_n 0, 1) := by decide +kernel
theorem dX5_advance_13 : decode cX5_advance 13 = .ok (.getfield 54, 3) := by decide +kernel
theorem dX5_advance_16 : decode cX5_advance 16 = .ok (.invokevirtual 150, 3) := by decide +kernel
theorem dX5_advance_19 : decode cX5_advance 19 = .ok (.invokestatic 158, 3) := by decide +kernel
theorem dX5_advance_22 : decode cX5_advance 22 = .ok (.ifCond .eq 16, 3) := by decide +kernel
theorem dX5_advance_25 : decode cX5_advance 25 = .ok (.aload_n 0, 1) := by decide +kernel
theorem dX5_advance_26 : decode cX5_advance 26 = .ok (.dup, 1) := by decide +kernel
theorem dX5_advance_27 : decode cX5_advance 27 = .ok (.getfield 54, 3) := by decide +kernel
theorem dX5_advance_30 : decode cX5_advance 30 = .ok (.iconst 1, 1) := by decide +kernel
theorem dX5_advance_31 : decode cX5_advance 31 = .ok (.iadd, 1) := by decide +kernel
theorem dX5_advance_32 : decode cX5_advance 32 = .ok (.putfield 54, 3) := by decide +kernel
theorem dX5_advance_35 : decode cX5_advance 35 = .ok (.goto (-35), 3) := by decide +kernel
theorem dX5_advance_38 : decode cX5_advance 38 = .ok (.aload_n 0, 1) := by decide +kernel
theorem dX5_advance_39 : decode cX5_advance 39 = .ok (.aload_n 0, 1) := by decide +kernel
theorem dX5_advance_40 : decode cX5_advance 40 = .ok (.getfield 54, 3) := by decide +kernel
theorem dX5_advance_43 : decode cX5_advance 43 = .ok (.putfield 51, 3) := by decide +kernel
theorem dX5_advance_46 : decode cX5_advance 46 = .ok (.aload_n 0, 1) := by decide +kernel
theorem dX5_advance_47 : decode cX5_advance 47 = .ok (.getfield 51, 3) := by decide +kernel
theorem dX5_advance_50 : decode cX5_advance 50 = .ok (.aload_n 0, 1) := by decide +kernel
theorem dX5_advance_51 : decode cX5_advance 51 = .ok (.getfield 39, 3) := by decide +kernel
theorem dX5_advance_54 : decode cX5_advance 54 = .ok (.if_icmp .lt 11, 3) := by decide +kernel
theorem dX5_advance_57 : decode cX5_advance 57 = .ok (.aload_n 0, 1) := by decide +kernel
theorem dX5_advance_58 : decode cX5_advance 58 = .ok (.iconst 0, 1) := by decide +kernel
theorem dX5_advance_59 : decode cX5_advance 59 = .ok (.putfield 48, 3) := by decide +kernel
theorem dX5_advance_62 : decode cX5_advance 62 = .ok (.goto 77, 3) := by decide +kernel
theorem dX5_advance_65 : decode cX5_advance 65 = .ok (.aload_n 0, 1) := by decide +kernel
theorem dX5_advance_66 : decode cX5_advance 66 = .ok (.aload_n 0, 1) := by decide +kernel
theorem dX5_advance_67 : decode cX5_advance 67 = .ok (.getfield 51, 3) := by decide +kernel
theorem dX5_advance_70 : decode cX5_advance 70 = .ok (.invokevirtual 150, 3) := by decide +kernel
theorem dX5_advance_73 : decode cX5_advance 73 = .ok (.invokestatic 161, 3) := by decide +kernel
theorem dX5_advance_76 : decode cX5_advance 76 = .ok (.ifCond .eq 10, 3) := by decide +kernel
theorem dX5_advance_79 : decode cX5_advance 79 = .ok (.aload_n 0, 1) := by decide +kernel
theorem dX5_advance_80 : decode cX5_advance 80 = .ok (.invokevirtual 164, 3) := by decide +kernel
theorem dX5_advance_83 : decode cX5_advance 83 = .ok (.goto 56, 3) := by decide +kernel
theorem dX5_advance_86 : decode cX5_advance 86 = .ok (.aload_n 0, 1) := by decide +kernel
theorem dX5_advance_87 : decode cX5_advance 87 = .ok (.aload_n 0, 1) := by decide +kernel
theorem dX5_advance_88 : decode cX5_advance 88 = .ok (.getfield 51, 3) := by decide +kernel
theorem dX5_advance_91 : decode cX5_advance 91 = .ok (.invokevirtual 150, 3) := by decide +kernel
theorem dX5_advance_94 : decode cX5_advance 94 = .ok (.invokestatic 167, 3) := by decide +kernel
theorem dX5_advance_97 : decode cX5_advance 97 = .ok (.ifCond .eq 10, 3) := by decide +kernel
theorem dX5_advance_100 : decode cX5_advance 100 = .ok (.aload_n 0, 1) := by decide +kernel
theorem dX5_advance_101 : decode cX5_advance 101 = .ok (.invokevirtual 170, 3) := by decide +kernel
theorem dX5_advance_104 : decode cX5_advance 104 = .ok (.goto 35, 3) := by decide +kernel
theorem dX5_advance_107 : decode cX5_advance 107 = .ok (.aload_n 0, 1) := by decide +kernel
theorem dX5_advance_108 : decode cX5_advance 108 = .ok (.aload_n 0, 1) := by decide +kernel
theorem dX5_advance_109 : decode cX5_advance 109 = .ok (.aload_n 0, 1) := by decide +kernel
theorem dX5_advance_110 : decode cX5_advance 110 = .ok (.getfield 51, 3) := by decide +kernel
theorem dX5_advance_113 : decode cX5_advance 113 = .ok (.invokevirtual 150, 3) := by decide +kernel
theorem dX5_advance_116 : decode cX5_advance 116 = .ok (.bipush 59, 2) := by decide +kernel
theorem dX5_advance_118 : decode cX5_advance 118 = .ok (.if_icmp .ne 7, 3) := by decide +kernel
theorem dX5_advance_121 : decode cX5_advance 121 = .ok (.iconst 3, 1) := by decide +kernel
theorem dX5_advance_122 : decode cX5_advance 122 = .ok (.goto 4, 3) := by decide +kernel
theorem dX5_advance_125 : decode cX5_advance 125 = .ok (.iconst 4, 1) := by decide +kernel
theorem dX5_advance_126 : decode cX5_advance 126 = .ok (.putfield 48, 3) := by decide +kernel
theorem dX5_advance_129 : decode cX5_advance 129 = .ok (.aload_n 0, 1) := by decide +kernel
theorem dX5_advance_130 : decode cX5_advance 130 = .ok (.dup, 1) := by decide +kernel
theorem dX5_advance_131 : decode cX5_advance 131 = .ok (.getfield 54, 3) := by decide +kernel
theorem dX5_advance_134 : decode cX5_advance 134 = .ok (.iconst 1, 1) := by decide +kernel
theorem dX5_advance_135 : decode cX5_advance 135 = .ok (.iadd, 1) := by decide +kernel
theorem dX5_advance_136 : decode cX5_advance 136 = .ok (.putfield 54, 3) := by decide +kernel
theorem dX5_advance_139 : decode cX5_advance 139 = .ok (.return_, 1) := by decide +kernel
theorem dX5_takeWord_0 : decode cX5_takeWord 0 = .ok (.aload_n 0, 1) := by decide +kernel
theorem dX5_takeWord_1 : decode cX5_takeWord 1 = .ok (.getfield 54, 3) := by decide +kernel
theorem dX5_takeWord_4 : decode cX5_takeWord 4 = .ok (.aload_n 0, 1) := by decide +kernel
theorem dX5_takeWord_5 : decode cX5_takeWord 5 = .ok (.getfield 39, 3) := by decide +kernel
theorem dX5_takeWord_8 : decode cX5_takeWord 8 = .ok (.if_icmp .ge 30, 3) := by decide +kernel
theorem dX5_takeWord_11 : decode cX5_takeWord 11 = .ok (.aload_n 0, 1) := by decide +kernel
theorem dX5_takeWord_12 : decode cX5_takeWord 12 = .ok (.aload_n 0, 1) := by decide +kernel
theorem dX5_takeWord_13 : decode cX5_takeWord 13 = .ok (.getfield 54, 3) := by decide +kernel
theorem dX5_takeWord_16 : decode cX5_takeWord 16 = .ok (.invokevirtual 150, 3) := by decide +kernel
theorem dX5_takeWord_19 : decode cX5_takeWord 19 = .ok (.invokestatic 161, 3) := by decide +kernel
theorem dX5_takeWord_22 : decode cX5_takeWord 22 = .ok (.ifCond .eq 16, 3) := by decide +kernel
theorem dX5_takeWord_25 : decode cX5_takeWord 25 = .ok (.aload_n 0, 1) := by decide +kernel
theorem dX5_takeWord_26 : decode cX5_takeWord 26 = .ok (.dup, 1) := by decide +kernel
theorem dX5_takeWord_27 : decode cX5_takeWord 27 = .ok (.getfield 54, 3) := by decide +kernel
theorem dX5_takeWord_30 : decode cX5_takeWord 30 = .ok (.iconst 1, 1) := by decide +kernel
theorem dX5_takeWord_31 : decode cX5_takeWord 31 = .ok (.iadd, 1) := by decide +kernel
theorem dX5_takeWord_32 : decode cX5_takeWord 32 = .ok (.putfield 54, 3) := by decide +kernel
theorem dX5_takeWord_35 : decode cX5_takeWord 35 = .ok (.goto (-35), 3) := by decide +kernel
theorem dX5_takeWord_38 : decode cX5_takeWord 38 = .ok (.aload_n 0, 1) := by decide +kernel
theorem dX5_takeWord_39 : decode cX5_takeWord 39 = .ok (.aload_n 0, 1) := by decide +kernel
theorem dX5_takeWord_40 : decode cX5_takeWord 40 = .ok (.getfield 54, 3) := by decide +kernel
theorem dX5_takeWord_43 : decode cX5_takeWord 43 = .ok (.aload_n 0, 1) := by decide +kernel
theorem dX5_takeWord_44 : decode cX5_takeWord 44 = .ok (.getfield 51, 3) := by decide +kernel
theorem dX5_takeWord_47 : decode cX5_takeWord 47 = .ok (.isub, 1) := by decide +kernel
theorem dX5_takeWord_48 : decode cX5_takeWord 48 = .ok (.bipush 8, 2) := by decide +kernel
theorem dX5_takeWord_50 : decode cX5_takeWord 50 = .ok (.if_icmp .gt 7, 3) := by decide +kernel
theorem dX5_takeWord_53 : decode cX5_takeWord 53 = .ok (.iconst 1, 1) := by decide +kernel
theorem dX5_takeWord_54 : decode cX5_takeWord 54 = .ok (.goto 4, 3) := by decide +kernel
theorem dX5_takeWord_57 : decode cX5_takeWord 57 = .ok (.iconst 4, 1) := by decide +kernel
theorem dX5_takeWord_58 : decode cX5_takeWord 58 = .ok (.putfield 48, 3) := by decide +kernel
theorem dX5_takeWord_61 : decode cX5_takeWord 61 = .ok (.return_, 1) := by decide +kernel
theorem dX5_takeNumber_0 : decode cX5_takeNumber 0 = .ok (.aload_n 0, 1) := by decide +kernel
theorem dX5_takeNumber_1 : decode cX5_takeNumber 1 = .ok (.iconst 0, 1) := by decide +kernel
theorem dX5_takeNumber_2 : decode cX5_takeNumber 2 = .ok (.putfield 57, 3) := by decide +kernel
theorem dX5_takeNumber_5 : decode cX5_takeNumber 5 = .ok (.aload_n 0, 1) := by decide +kernel
theorem dX5_takeNumber_6 : decode cX5_takeNumber 6 = .ok (.getfield 54, 3) := by decide +kernel
theorem dX5_takeNumber_9 : decode cX5_takeNumber 9 = .ok (.aload_n 0, 1) := by decide +kernel
theorem dX5_takeNumber_10 : decode cX5_takeNumber 10 = .ok (.getfield 39, 3) := by decide +kernel
theorem dX5_takeNumber_13 : decode cX5_takeNumber 13 = .ok (.if_icmp .ge 53, 3) := by decide +kernel
theorem dX5_takeNumber_16 : decode cX5_takeNumber 16 = .ok (.aload_n 0, 1) := by decide +kernel
theorem dX5_takeNumber_17 : decode cX5_takeNumber 17 = .ok (.aload_n 0, 1) := by decide +kernel
theorem dX5_takeNumber_18 : decode cX5_takeNumber 18 = .ok (.getfield 54, 3) := by decide +kernel
theorem dX5_takeNumber_21 : decode cX5_takeNumber 21 = .ok (.invokevirtual 150, 3) := by decide +kernel
theorem dX5_takeNumber_24 : decode cX5_takeNumber 24 = .ok (.invokestatic 167, 3) := by decide +kernel
theorem dX5_takeNumber_27 : decode cX5_takeNumber 27 = .ok (.ifCond .eq 39, 3) := by decide +kernel
theorem dX5_takeNumber_30 : decode cX5_takeNumber 30 = .ok (.aload_n 0, 1) := by decide +kernel
theorem dX5_takeNumber_31 : decode cX5_takeNumber 31 = .ok (.aload_n 0, 1) := by decide +kernel
theorem dX5_takeNumber_32 : decode cX5_takeNumber 32 = .ok (.getfield 57, 3) := by decide +kernel
theorem dX5_takeNumber_35 : decode cX5_takeNumber 35 = .ok (.bipush 10, 2) := by decide +kernel
theorem dX5_takeNumber_37 : decode cX5_takeNumber 37 = .ok (.imul, 1) := by decide +kernel
theorem dX5_takeNumber_38 : decode cX5_takeNumber 38 = .ok (.aload_n 0, 1) := by decide +kernel
theorem dX5_takeNumber_39 : decode cX5_takeNumber 39 = .ok (.aload_n 0, 1) := by decide +kernel
theorem dX5_takeNumber_40 : decode cX5_takeNumber 40 = .ok (.getfield 54, 3) := by decide +kernel
theorem dX5_takeNumber_43 : decode cX5_takeNumber 43 = .ok (.invokevirtual 150, 3) := by decide +kernel
theorem dX5_takeNumber_46 : decode cX5_takeNumber 46 = .ok (.iadd, 1) := by decide +kernel
theorem dX5_takeNumber_47 : decode cX5_takeNumber 47 = .ok (.bipush 48, 2) := by decide +kernel
theorem dX5_takeNumber_49 : decode cX5_takeNumber 49 = .ok (.isub, 1) := by decide +kernel
theorem dX5_takeNumber_50 : decode cX5_takeNumber 50 = .ok (.putfield 57, 3) := by decide +kernel
theorem dX5_takeNumber_53 : decode cX5_takeNumber 53 = .ok (.aload_n 0, 1) := by decide +kernel
theorem dX5_takeNumber_54 : decode cX5_takeNumber 54 = .ok (.dup, 1) := by decide +kernel
theorem dX5_takeNumber_55 : decode cX5_takeNumber 55 = .ok (.getfield 54, 3) := by decide +kernel
theorem dX5_takeNumber_58 : decode cX5_takeNumber 58 = .ok (.iconst 1, 1) := by decide +kernel
theorem dX5_takeNumber_59 : decode cX5_takeNumber 59 = .ok (.iadd, 1) := by decide +kernel
theorem dX5_takeNumber_60 : decode cX5_takeNumber 60 = .ok (.putfield 54, 3) := by decide +kernel
theorem dX5_takeNumber_63 : decode cX5_takeNumber 63 = .ok (.goto (-58), 3) := by decide +kernel
theorem dX5_takeNumber_66 : decode cX5_takeNumber 66 = .ok (.aload_n 0, 1) := by decide +kernel
theorem dX5_takeNumber_67 : decode cX5_takeNumber 67 = .ok (.aload_n 0, 1) := by decide +kernel
theorem dX5_takeNumber_68 : decode cX5_takeNumber 68 = .ok (.getfield 54, 3) := by decide +kernel
theorem dX5_takeNumber_71 : decode cX5_takeNumber 71 = .ok (.aload_n 0, 1) := by decide +kernel
theorem dX5_takeNumber_72 : decode cX5_takeNumber 72 = .ok (.getfield 51, 3) := by decide +kernel
theorem dX5_takeNumber_75 : decode cX5_takeNumber 75 = .ok (.isub, 1) := by decide +kernel
theorem dX5_takeNumber_76 : decode cX5_takeNumber 76 = .ok (.iconst 2, 1) := by decide +kernel
theorem dX5_takeNumber_77 : decode cX5_takeNumber 77 = .ok (.if_icmp .gt 7, 3) := by decide +kernel
theorem dX5_takeNumber_80 : decode cX5_takeNumber 80 = .ok (.iconst 2, 1) := by decide +kernel
theorem dX5_takeNumber_81 : decode cX5_takeNumber 81 = .ok (.goto 4, 3) := by decide +kernel
theorem dX5_takeNumber_84 : decode cX5_takeNumber 84 = .ok (.iconst 4, 1) := by decide +kernel
theorem dX5_takeNumber_85 : decode cX5_takeNumber 85 = .ok (.putfield 48, 3) := by decide +kernel
theorem dX5_takeNumber_88 : decode cX5_takeNumber 88 = .ok (.return_, 1) := by decide +kernel
theorem dX5_byteAt_0 : decode cX5_byteAt 0 = .ok (.iload_n 1, 1) := by decide +kernel
theorem dX5_byteAt_1 : decode cX5_byteAt 1 = .ok (.ifCond .lt 23, 3) := by decide +kernel
theorem dX5_byteAt_4 : decode cX5_byteAt 4 = .ok (.iload_n 1, 1) := by decide +kernel
theorem dX5_byteAt_5 : decode cX5_byteAt 5 = .ok (.sipush 400, 3) := by decide +kernel
theorem dX5_byteAt_8 : decode cX5_byteAt 8 = .ok (.if_icmp .ge 16, 3) := by decide +kernel
theorem dX5_byteAt_11 : decode cX5_byteAt 11 = .ok (.aload_n 0, 1) := by decide +kernel
theorem dX5_byteAt_12 : decode cX5_byteAt 12 = .ok (.getfield 11, 3) := by decide +kernel
theorem dX5_byteAt_15 : decode cX5_byteAt 15 = .ok (.iload_n 1, 1) := by decide +kernel
theorem dX5_byteAt_16 : decode cX5_byteAt 16 = .ok (.baload, 1) := by decide +kernel
theorem dX5_byteAt_17 : decode cX5_byteAt 17 = .ok (.sipush 255, 3) := by decide +kernel
theorem dX5_byteAt_20 : decode cX5_byteAt 20 = .ok (.iand, 1) := by decide +kernel
theorem dX5_byteAt_21 : decode cX5_byteAt 21 = .ok (.goto 4, 3) := by decide +kernel
theorem dX5_byteAt_24 : decode cX5_byteAt 24 = .ok (.iconst 0, 1) := by decide +kernel
theorem dX5_byteAt_25 : decode cX5_byteAt 25 = .ok (.ireturn, 1) := by decide +kernel
theorem dX5_isBlank_0 : decode cX5_isBlank 0 = .ok (.iload_n 0, 1) := by decide +kernel
theorem dX5_isBlank_1 : decode cX5_isBlank 1 = .ok (.bipush 32, 2) := by decide +kernel
theorem dX5_isBlank_3 : decode cX5_isBlank 3 = .ok (.if_icmp .eq 9, 3) := by decide +kernel
theorem dX5_isBlank_6 : decode cX5_isBlank 6 = .ok (.iload_n 0, 1) := by decide +kernel
theorem dX5_isBlank_7 : decode cX5_isBlank 7 = .ok (.bipush 10, 2) := by decide +kernel
theorem dX5_isBlank_9 : decode cX5_isBlank 9 = .ok (.if_icmp .ne 7, 3) := by decide +kernel
theorem dX5_isBlank_12 : decode cX5_isBlank 12 = .ok (.iconst 1, 1) := by decide +kernel
theorem dX5_isBlank_13 : decode cX5_isBlank 13 = .ok (.goto 4, 3) := by decide +kernel
theorem dX5_isBlank_16 : decode cX5_isBlank 16 = .ok (.iconst 0, 1) := by decide +kernel
theorem dX5_isBlank_17 : decode cX5_isBlank 17 = .ok (.ireturn, 1) := by decide +kernel
theorem dX5_isLetter_0 : decode cX5_isLetter 0 = .ok (.iload_n 0, 1) := by decide +kernel
theorem dX5_isLetter_1 : decode cX5_isLetter 1 = .ok (.bipush 97, 2) := by decide +kernel
theorem dX5_isLetter_3 : decode cX5_isLetter 3 = .ok (.if_icmp .lt 13, 3) := by decide +kernel
theorem dX5_isLetter_6 : decode cX5_isLetter 6 = .ok (.iload_n 0, 1) := by decide +kernel
theorem dX5_isLetter_7 : decode cX5_isLetter 7 = .ok (.bipush 122, 2) := by decide +kernel
theorem dX5_isLetter_9 : decode cX5_isLetter 9 = .ok (.if_icmp .gt 7, 3) := by decide +kernel
theorem dX5_isLetter_12 : decode cX5_isLetter 12 = .ok (.iconst 1, 1) := by decide +kernel
theorem dX5_isLetter_13 : decode cX5_isLetter 13 = .ok (.goto 4, 3) := by decide +kernel
theorem dX5_isLetter_16 : decode cX5_isLetter 16 = .ok (.iconst 0, 1) := by decide +kernel
theorem dX5_isLetter_17 : decode cX5_isLetter 17 = .ok (.ireturn, 1) := by decide +kernel
theorem dX5_isDigit_0 : decode cX5_isDigit 0 = .ok (.iload_n 0, 1) := by decide +kernel
theorem dX5_isDigit_1 : decode cX5_isDigit 1 = .ok (.bipush 48, 2) := by decide +kernel
theorem dX5_isDigit_3 : decode cX5_isDigit 3 = .ok (.if_icmp .lt 13, 3) := by decide +kernel
theorem dX5_isDigit_6 : decode cX5_isDigit 6 = .ok (.iload_n 0, 1) := by decide +kernel
theorem dX5_isDigit_7 : decode cX5_isDigit 7 = .ok (.bipush 57, 2) := by decide +kernel
theorem dX5_isDigit_9 : decode cX5_isDigit 9 = .ok (.if_icmp .gt 7, 3) := by decide +kernel
theorem dX5_isDigit_12 : decode cX5_isDigit 12 = .ok (.iconst 1, 1) := by decide +kernel
theorem dX5_isDigit_13 : decode cX5_isDigit 13 = .ok (.goto 4, 3) := by decide +kernel
theorem dX5_isDigit_16 : decode cX5_isDigit 16 = .ok (.iconst 0, 1) := by decide +kernel
theorem dX5_isDigit_17 : decode cX5_isDigit 17 = .ok (.ireturn, 1) := by decide +kernel
theorem dX6_init_0 : decode cX6_init 0 = .ok (.aload_n 0, 1) := by decide +kernel
theorem dX6_init_1 : decode cX6_init 1 = .ok (.invokespecial 3, 3) := by decide +kernel
theorem dX6_init_4 : decode cX6_init 4 = .ok (.aload_n 0, 1) := by decide +kernel
theorem dX6_init_5 : decode cX6_init 5 = .ok (.bipush 8, 2) := by decide +kernel
theorem dX6_init_7 : decode cX6_init 7 = .ok (.newarray .int, 2) := by decide +kernel
theorem dX6_init_9 : decode cX6_init 9 = .ok (.putfield 9, 3) := by decide +kernel
theorem dX6_init_12 : decode cX6_init 12 = .ok (.aload_n 0, 1) := by decide +kernel
theorem dX6_init_13 : decode cX6_init 13 = .ok (.bipush 8, 2) := by decide +kernel
theorem dX6_init_15 : decode cX6_init 15 = .ok (.newarray .int, 2) := by decide +kernel
theorem dX6_init_17 : decode cX6_init 17 = .ok (.putfield 15, 3) := by decide +kernel
theorem dX6_init_20 : decode cX6_init 20 = .ok (.aload_n 0, 1) := by decide +kernel
theorem dX6_init_21 : decode cX6_init 21 = .ok (.bipush 8, 2) := by decide +kernel
theorem dX6_init_23 : decode cX6_init 23 = .ok (.newarray .int, 2) := by decide +kernel
theorem dX6_init_25 : decode cX6_init 25 = .ok (.putfield 18, 3) := by decide +kernel
theorem dX6_init_28 : decode cX6_init 28 = .ok (.aload_n 0, 1) := by decide +kernel
theorem dX6_init_29 : decode cX6_init 29 = .ok (.iconst 0, 1) := by decide +kernel
theorem dX6_init_30 : decode cX6_init 30 = .ok (.putfield 21, 3) := by decide +kernel
theorem dX6_init_33 : decode cX6_init 33 = .ok (.aload_n 0, 1) := by decide +kernel
theorem dX6_init_34 : decode cX6_init 34 = .ok (.iconst 0, 1) := by decide +kernel
theorem dX6_init_35 : decode cX6_init 35 = .ok (.putfield 25, 3) := by decide +kernel
theorem dX6_init_38 : decode cX6_init 38 = .ok (.return_, 1) := by decide +kernel
theorem dX6_clear_0 : decode cX6_clear 0 = .ok (.aload_n 0, 1) := by decide +kernel
theorem dX6_clear_1 : decode cX6_clear 1 = .ok (.iconst 0, 1) := by decide +kernel
theorem dX6_clear_2 : decode cX6_clear 2 = .ok (.putfield 21, 3) := by decide +kernel
theorem dX6_clear_5 : decode cX6_clear 5 = .ok (.aload_n 0, 1) := by decide +kernel
theorem dX6_clear_6 : decode cX6_clear 6 = .ok (.iconst 0, 1) := by decide +kernel
theorem dX6_clear_7 : decode cX6_clear 7 = .ok (.putfield 25, 3) := by decide +kernel
theorem dX6_clear_10 : decode cX6_clear 10 = .ok (.return_, 1) := by decide +kernel
theorem dX6_isFull_0 : decode cX6_isFull 0 = .ok (.aload_n 0, 1) := by decide +kernel
theorem dX6_isFull_1 : decode cX6_isFull 1 = .ok (.getfield 21, 3) := by decide +kernel
theorem dX6_isFull_4 : decode cX6_isFull 4 = .ok (.aload_n 0, 1) := by decide +kernel
theorem dX6_isFull_5 : decode cX6_isFull 5 = .ok (.getfield 9, 3) := by decide +kernel
theorem dX6_isFull_8 : decode cX6_isFull 8 = .ok (.arraylength, 1) := by decide +kernel
theorem dX6_isFull_9 : decode cX6_isFull 9 = .ok (.if_icmp .lt 7, 3) := by decide +kernel
theorem dX6_isFull_12 : decode cX6_isFull 12 = .ok (.iconst 1, 1) := by decide +kernel
theorem dX6_isFull_13 : decode cX6_isFull 13 = .ok (.goto 4, 3) := by decide +kernel
theorem dX6_isFull_16 : decode cX6_isFull 16 = .ok (.iconst 0, 1) := by decide +kernel
theorem dX6_isFull_17 : decode cX6_isFull 17 = .ok (.ireturn, 1) := by decide +kernel
theorem dX6_length_0 : decode cX6_length 0 = .ok (.aload_n 0, 1) := by decide +kernel
theorem dX6_length_1 : decode cX6_length 1 = .ok (.getfield 21, 3) := by decide +kernel
theorem dX6_length_4 : decode cX6_length 4 = .ok (.ireturn, 1) := by decide +kernel
theorem dX6_total_0 : decode cX6_total 0 = .ok (.aload_n 0, 1) := by decide +kernel
theorem dX6_total_1 : decode cX6_total 1 = .ok (.getfield 25, 3) := by decide +kernel
theorem dX6_total_4 : decode cX6_total 4 = .ok (.ireturn, 1) := by decide +kernel
theorem dX6_append_0 : decode cX6_append 0 = .ok (.aload_n 0, 1) := by decide +kernel
theorem dX6_append_1 : decode cX6_append 1 = .ok (.invokevirtual 28, 3) := by decide +kernel
theorem dX6_append_4 : decode cX6_append 4 = .ok (.ifCond .eq 4, 3) := by decide +kernel
theorem dX6_append_7 : decode cX6_append 7 = .ok (.return_, 1) := by decide +kernel
theorem dX6_append_8 : decode cX6_append 8 = .ok (.aload_n 0, 1) := by decide +kernel
theorem dX6_append_9 : decode cX6_append 9 = .ok (.getfield 9, 3) := by decide +kernel
theorem dX6_append_12 : decode cX6_append 12 = .ok (.aload_n 0, 1) := by decide +kernel
theorem dX6_append_13 : decode cX6_append 13 = .ok (.getfield 21, 3) := by decide +kernel
theorem dX6_append_16 : decode cX6_append 16 = .ok (.iload_n 1, 1) := by decide +kernel
theorem dX6_append_17 : decode cX6_append 17 = .ok (.iastore, 1) := by decide +kernel
theorem dX6_append_18 : decode cX6_append 18 = .ok (.aload_n 0, 1) := by decide +kernel
theorem dX6_append_19 : decode cX6_append 19 = .ok (.iload_n 1, 1) := by decide +kernel
theorem dX6_append_20 : decode cX6_append 20 = .ok (.invokevirtual 32, 3) := by decide +kernel
theorem dX6_append_23 : decode cX6_append 23 = .ok (.aload_n 0, 1) := by decide +kernel
theorem dX6_append_24 : decode cX6_append 24 = .ok (.dup, 1) := by decide +kernel
theorem dX6_append_25 : decode cX6_append 25 = .ok (.getfield 21, 3) := by decide +kernel
theorem dX6_append_28 : decode cX6_append 28 = .ok (.iconst 1, 1) := by decide +kernel
theorem dX6_append_29 : decode cX6_append 29 = .ok (.iadd, 1) := by decide +kernel
theorem dX6_append_30 : decode cX6_append 30 = .ok (.putfield 21, 3) := by decide +kernel
theorem dX6_append_33 : decode cX6_append 33 = .ok (.aload_n 0, 1) := by decide +kernel
theorem dX6_append_34 : decode cX6_append 34 = .ok (.dup, 1) := by decide +kernel
theorem dX6_append_35 : decode cX6_append 35 = .ok (.getfield 25, 3) := by decide +kernel
theorem dX6_append_38 : decode cX6_append 38 = .ok (.iload_n 1, 1) := by decide +kernel
theorem dX6_append_39 : decode cX6_append 39 = .ok (.iadd, 1) := by decide +kernel
theorem dX6_append_40 : decode cX6_append 40 = .ok (.putfield 25, 3) := by decide +kernel
theorem dX6_append_43 : decode cX6_append 43 = .ok (.return_, 1) := by decide +kernel
theorem dX6_insertFalling_0 : decode cX6_insertFalling 0 = .ok (.aload_n 0, 1) := by decide +kernel
theorem dX6_insertFalling_1 : decode cX6_insertFalling 1 = .ok (.getfield 21, 3) := by decide +kernel
theorem dX6_insertFalling_4 : decode cX6_insertFalling 4 = .ok (.istore_n 2, 1) := by decide +kernel
theorem dX6_insertFalling_5 : decode cX6_insertFalling 5 = .ok (.iload_n 2, 1) := by decide +kernel
theorem dX6_insertFalling_6 : decode cX6_insertFalling 6 = .ok (.ifCond .le 35, 3) := by decide +kernel
theorem dX6_insertFalling_9 : decode cX6_insertFalling 9 = .ok (.aload_n 0, 1) := by decide +kernel
theorem dX6_insertFalling_10 : decode cX6_insertFalling 10 = .ok (.getfield 15, 3) := by decide +kernel
theorem dX6_insertFalling_13 : decode cX6_insertFalling 13 = .ok (.iload_n 2, 1) := by decide +kernel
theorem dX6_insertFalling_14 : decode cX6_insertFalling 14 = .ok (.iconst 1, 1) := by decide +kernel
theorem dX6_insertFalling_15 : decode cX6_insertFalling 15 = .ok (.isub, 1) := by decide +kernel
theorem dX6_insertFalling_16 : decode cX6_insertFalling 16 = .ok (.iaload, 1) := by decide +kernel
theorem dX6_insertFalling_17 : decode cX6_insertFalling 17 = .ok (.iload_n 1, 1) := by decide +kernel
theorem dX6_insertFalling_18 : decode cX6_insertFalling 18 = .ok (.if_icmp .ge 23, 3) := by decide +kernel
theorem dX6_insertFalling_21 : decode cX6_insertFalling 21 = .ok (.aload_n 0, 1) := by decide +kernel
theorem dX6_insertFalling_22 : decode cX6_insertFalling 22 = .ok (.getfield 15, 3) := by decide +kernel
theorem dX6_insertFalling_25 : decode cX6_insertFalling 25 = .ok (.iload_n 2, 1) := by decide +kernel
theorem dX6_insertFalling_26 : decode cX6_insertFalling 26 = .ok (.aload_n 0, 1) := by decide +kernel
theorem dX6_insertFalling_27 : decode cX6_insertFalling 27 = .ok (.getfield 15, 3) := by decide +kernel
theorem dX6_insertFalling_30 : decode cX6_insertFalling 30 = .ok (.iload_n 2, 1) := by decide +kernel
theorem dX6_insertFalling_31 : decode cX6_insertFalling 31 = .ok (.iconst 1, 1) := by decide +kernel
theorem dX6_insertFalling_32 : decode cX6_insertFalling 32 = .ok (.isub, 1) := by decide +kernel
theorem dX6_insertFalling_33 : decode cX6_insertFalling 33 = .ok (.iaload, 1) := by decide +kernel
theorem dX6_insertFalling_34 : decode cX6_insertFalling 34 = .ok (.iastore, 1) := by decide +kernel
theorem dX6_insertFalling_35 : decode cX6_insertFalling 35 = .ok (.iinc 2 (-1), 3) := by decide +kernel
theorem dX6_insertFalling_38 : decode cX6_insertFalling 38 = .ok (.goto (-33), 3) := by decide +kernel
theorem dX6_insertFalling_41 : decode cX6_insertFalling 41 = .ok (.aload_n 0, 1) := by decide +kernel
theorem dX6_insertFalling_42 : decode cX6_insertFalling 42 = .ok (.getfield 15, 3) := by decide +kernel
theorem dX6_insertFalling_45 : decode cX6_insertFalling 45 = .ok (.iload_n 2, 1) := by decide +kernel
theorem dX6_insertFalling_46 : decode cX6_insertFalling 46 = .ok (.iload_n 1, 1) := by decide +kernel
theorem dX6_insertFalling_47 : decode cX6_insertFalling 47 = .ok (.iastore, 1) := by decide +kernel
theorem dX6_insertFalling_48 : decode cX6_insertFalling 48 = .ok (.return_, 1) := by decide +kernel
theorem dX6_take_0 : decode cX6_take 0 = .ok (.aload_n 0, 1) := by decide +kernel
theorem dX6_take_1 : decode cX6_take 1 = .ok (.invokevirtual 36, 3) := by decide +kernel
theorem dX6_take_4 : decode cX6_take 4 = .ok (.iconst 0, 1) := by decide +kernel
theorem dX6_take_5 : decode cX6_take 5 = .ok (.istore_n 2, 1) := by decide +kernel
theorem dX6_take_6 : decode cX6_take 6 = .ok (.iload_n 2, 1) := by decide +kernel
theorem dX6_take_7 : decode cX6_take 7 = .ok (.aload_n 1, 1) := by decide +kernel
theorem dX6_take_8 : decode cX6_take 8 = .ok (.invokevirtual 39, 3) := by decide +kernel
theorem dX6_take_11 : decode cX6_take 11 = .ok (.if_icmp .ge 18, 3) := by decide +kernel
theorem dX6_take_14 : decode cX6_take 14 = .ok (.aload_n 0, 1) := by decide +kernel
theorem dX6_take_15 : decode cX6_take 15 = .ok (.aload_n 1, 1) := by decide +kernel
theorem dX6_take_16 : decode cX6_take 16 = .ok (.iload_n 2, 1) := by decide +kernel
theorem dX6_take_17 : decode cX6_take 17 = .ok (.invokevirtual 45, 3) := by decide +kernel
theorem dX6_take_20 : decode cX6_take 20 = .ok (.invokevirtual 49, 3) := by decide +kernel
theorem dX6_take_23 : decode cX6_take 23 = .ok (.iinc 2 1, 3) := by decide +kernel
theorem dX6_take_26 : decode cX6_take 26 = .ok (.goto (-20), 3) := by decide +kernel
theorem dX6_take_29 : decode cX6_take 29 = .ok (.return_, 1) := by decide +kernel
theorem dX6_greatest_0 : decode cX6_greatest 0 = .ok (.aload_n 0, 1) := by decide +kernel
theorem dX6_greatest_1 : decode cX6_greatest 1 = .ok (.getfield 15, 3) := by decide +kernel
theorem dX6_greatest_4 : decode cX6_greatest 4 = .ok (.iload_n 1, 1) := by decide +kernel
theorem dX6_greatest_5 : decode cX6_greatest 5 = .ok (.iaload, 1) := by decide +kernel
theorem dX6_greatest_6 : decode cX6_greatest 6 = .ok (.ireturn, 1) := by decide +kernel
theorem dX6_slackOf_0 : decode cX6_slackOf 0 = .ok (.iload_n 1, 1) := by decide +kernel
theorem dX6_slackOf_1 : decode cX6_slackOf 1 = .ok (.iload_n 1, 1) := by decide +kernel
theorem dX6_slackOf_2 : decode cX6_slackOf 2 = .ok (.iconst 1, 1) := by decide +kernel
theorem dX6_slackOf_3 : decode cX6_slackOf 3 = .ok (.isub, 1) := by decide +kernel
theorem dX6_slackOf_4 : decode cX6_slackOf 4 = .ok (.imul, 1) := by decide +kernel
theorem dX6_slackOf_5 : decode cX6_slackOf 5 = .ok (.istore_n 2, 1) := by decide +kernel
theorem dX6_slackOf_6 : decode cX6_slackOf 6 = .ok (.iconst 0, 1) := by decide +kernel
theorem dX6_slackOf_7 : decode cX6_slackOf 7 = .ok (.istore_n 3, 1) := by decide +kernel
theorem dX6_slackOf_8 : decode cX6_slackOf 8 = .ok (.iload_n 3, 1) := by decide +kernel
theorem dX6_slackOf_9 : decode cX6_slackOf 9 = .ok (.aload_n 0, 1) := by decide +kernel
theorem dX6_slackOf_10 : decode cX6_slackOf 10 = .ok (.getfield 21, 3) := by decide +kernel
theorem dX6_slackOf_13 : decode cX6_slackOf 13 = .ok (.if_icmp .ge 37, 3) := by decide +kernel
theorem dX6_slackOf_16 : decode cX6_slackOf 16 = .ok (.iload_n 2, 1) := by decide +kernel
theorem dX6_slackOf_17 : decode cX6_slackOf 17 = .ok (.iload_n 3, 1) := by decide +kernel
theorem dX6_slackOf_18 : decode cX6_slackOf 18 = .ok (.iload_n 1, 1) := by decide +kernel
theorem dX6_slackOf_19 : decode cX6_slackOf 19 = .ok (.if_icmp .ge 13, 3) := by decide +kernel
theorem dX6_slackOf_22 : decode cX6_slackOf 22 = .ok (.aload_n 0, 1) := by decide +kernel
theorem dX6_slackOf_23 : decode cX6_slackOf 23 = .ok (.getfield 15, 3) := by decide +kernel
theorem dX6_slackOf_26 : decode cX6_slackOf 26 = .ok (.iload_n 3, 1) := by decide +kernel
theorem dX6_slackOf_27 : decode cX6_slackOf 27 = .ok (.iaload, 1) := by decide +kernel
theorem dX6_slackOf_28 : decode cX6_slackOf 28 = .ok (.ineg, 1) := by decide +kernel
theorem dX6_slackOf_29 : decode cX6_slackOf 29 = .ok (.goto 13, 3) := by decide +kernel
theorem dX6_slackOf_32 : decode cX6_slackOf 32 = .ok (.iload_n 1, 1) := by decide +kernel
theorem dX6_slackOf_33 : decode cX6_slackOf 33 = .ok (.aload_n 0, 1) := by decide +kernel
theorem dX6_slackOf_34 : decode cX6_slackOf 34 = .ok (.getfield 15, 3) := by decide +kernel
theorem dX6_slackOf_37 : decode cX6_slackOf 37 = .ok (.iload_n 3, 1) := by decide +kernel
theorem dX6_slackOf_38 : decode cX6_slackOf 38 = .ok (.iaload, 1) := by decide +kernel
theorem dX6_slackOf_39 : decode cX6_slackOf 39 = .ok (.invokestatic 52, 3) := by decide +kernel
theorem dX6_slackOf_42 : decode cX6_slackOf 42 = .ok (.iadd, 1) := by decide +kernel
theorem dX6_slackOf_43 : decode cX6_slackOf 43 = .ok (.istore_n 2, 1) := by decide +kernel
theorem dX6_slackOf_44 : decode cX6_slackOf 44 = .ok (.iinc 3 1, 3) := by decide +kernel
theorem dX6_slackOf_47 : decode cX6_slackOf 47 = .ok (.goto (-39), 3) := by decide +kernel
theorem dX6_slackOf_50 : decode cX6_slackOf 50 = .ok (.iload_n 2, 1) := by decide +kernel
theorem dX6_slackOf_51 : decode cX6_slackOf 51 = .ok (.ireturn, 1) := by decide +kernel
theorem dX6_allows_0 : decode cX6_allows 0 = .ok (.aload_n 0, 1) := by decide +kernel
theorem dX6_allows_1 : decode cX6_allows 1 = .ok (.getfield 25, 3) := by decide +kernel
theorem dX6_allows_4 : decode cX6_allows 4 = .ok (.iconst 2, 1) := by decide +kernel
theorem dX6_allows_5 : decode cX6_allows 5 = .ok (.irem, 1) := by decide +kernel
theorem dX6_allows_6 : decode cX6_allows 6 = .ok (.ifCond .eq 5, 3) := by decide +kernel
theorem dX6_allows_9 : decode cX6_allows 9 = .ok (.iconst 0, 1) := by decide +kernel
theorem dX6_allows_10 : decode cX6_allows 10 = .ok (.ireturn, 1) := by decide +kernel
theorem dX6_allows_11 : decode cX6_allows 11 = .ok (.iload_n 1, 1) := by decide +kernel
theorem dX6_allows_12 : decode cX6_allows 12 = .ok (.iconst 1, 1) := by decide +kernel
theorem dX6_allows_13 : decode cX6_allows 13 = .ok (.if_icmp .ne 36, 3) := by decide +kernel
theorem dX6_allows_16 : decode cX6_allows 16 = .ok (.aload_n 0, 1) := by decide +kernel
theorem dX6_allows_17 : decode cX6_allows 17 = .ok (.getfield 21, 3) := by decide +kernel
theorem dX6_allows_20 : decode cX6_allows 20 = .ok (.ifCond .eq 23, 3) := by decide +kernel
theorem dX6_allows_23 : decode cX6_allows 23 = .ok (.aload_n 0, 1) := by decide +kernel
theorem dX6_allows_24 : decode cX6_allows 24 = .ok (.getfield 15, 3) := by decide +kernel
theorem dX6_allows_27 : decode cX6_allows 27 = .ok (.iconst 0, 1) := by decide +kernel
theorem dX6_allows_28 : decode cX6_allows 28 = .ok (.iaload, 1) := by decide +kernel
theorem dX6_allows_29 : decode cX6_allows 29 = .ok (.aload_n 0, 1) := by decide +kernel
theorem dX6_allows_30 : decode cX6_allows 30 = .ok (.getfield 25, 3) := by decide +kernel
theorem dX6_allows_33 : decode cX6_allows 33 = .ok (.aload_n 0, 1) := by decide +kernel
theorem dX6_allows_34 : decode cX6_allows 34 = .ok (.getfield 15, 3) := by decide +kernel
theorem dX6_allows_37 : decode cX6_allows 37 = .ok (.iconst 0, 1) := by decide +kernel
theorem dX6_allows_38 : decode cX6_allows 38 = .ok (.iaload, 1) := by decide +kernel
theorem dX6_allows_39 : decode cX6_allows 39 = .ok (.isub, 1) := by decide +kernel
theorem dX6_allows_40 : decode cX6_allows 40 = .ok (.if_icmp .gt 7, 3) := by decide +kernel
theorem dX6_allows_43 : decode cX6_allows 43 = .ok (.iconst 1, 1) := by decide +kernel
theorem dX6_allows_44 : decode cX6_allows 44 = .ok (.goto 4, 3) := by decide +kernel
theorem dX6_allows_47 : decode cX6_allows 47 = .ok (.iconst 0, 1) := by decide +kernel
theorem dX6_allows_48 : decode cX6_allows 48 = .ok (.ireturn, 1) := by decide +kernel
theorem dX6_allows_49 : decode cX6_allows 49 = .ok (.iload_n 1, 1) := by decide +kernel
theorem dX6_allows_50 : decode cX6_allows 50 = .ok (.iconst 2, 1) := by decide +kernel
theorem dX6_allows_51 : decode cX6_allows 51 = .ok (.if_icmp .ne 10, 3) := by decide +kernel
theorem dX6_allows_54 : decode cX6_allows 54 = .ok (.aload_n 0, 1) := by decide +kernel
theorem dX6_allows_55 : decode cX6_allows 55 = .ok (.invokevirtual 58, 3) := by decide +kernel
theorem dX6_allows_58 : decode cX6_allows 58 = .ok (.ifCond .eq 7, 3) := by decide +kernel
theorem dX6_allows_61 : decode cX6_allows 61 = .ok (.iconst 1, 1) := by decide +kernel
theorem dX6_allows_62 : decode cX6_allows 62 = .ok (.goto 4, 3) := by decide +kernel
theorem dX6_allows_65 : decode cX6_allows 65 = .ok (.iconst 0, 1) := by decide +kernel
theorem dX6_allows_66 : decode cX6_allows 66 = .ok (.ireturn, 1) := by decide +kernel
theorem dX6_hasNoNegativeSlack_0 : decode cX6_hasNoNegativeSlack 0 = .ok (.iconst 1, 1) := by decide +kernel
theorem dX6_hasNoNegativeSlack_1 : decode cX6_hasNoNegativeSlack 1 = .ok (.istore_n 1, 1) := by decide +kernel
theorem dX6_hasNoNegativeSlack_2 : decode cX6_hasNoNegativeSlack 2 = .ok (.iload_n 1, 1) := by decide +kernel
theorem dX6_hasNoNegativeSlack_3 : decode cX6_hasNoNegativeSlack 3 = .ok (.aload_n 0, 1) := by decide +kernel
theorem dX6_hasNoNegativeSlack_4 : decode cX6_hasNoNegativeSlack 4 = .ok (.getfield 21, 3) := by decide +kernel
theorem dX6_hasNoNegativeSlack_7 : decode cX6_hasNoNegativeSlack 7 = .ok (.if_icmp .gt 19, 3) := by decide +kernel
theorem dX6_hasNoNegativeSlack_10 : decode cX6_hasNoNegativeSlack 10 = .ok (.aload_n 0, 1) := by decide +kernel
theorem dX6_hasNoNegativeSlack_11 : decode cX6_hasNoNegativeSlack 11 = .ok (.iload_n 1, 1) := by decide +kernel
theorem dX6_hasNoNegativeSlack_12 : decode cX6_hasNoNegativeSlack 12 = .ok (.invokevirtual 61, 3) := by decide +kernel
theorem dX6_hasNoNegativeSlack_15 : decode cX6_hasNoNegativeSlack 15 = .ok (.ifCond .ge 5, 3) := by decide +kernel
theorem dX6_hasNoNegativeSlack_18 : decode cX6_hasNoNegativeSlack 18 = .ok (.iconst 0, 1) := by decide +kernel
theorem dX6_hasNoNegativeSlack_19 : decode cX6_hasNoNegativeSlack 19 = .ok (.ireturn, 1) := by decide +kernel
theorem dX6_hasNoNegativeSlack_20 : decode cX6_hasNoNegativeSlack 20 = .ok (.iinc 1 1, 3) := by decide +kernel
theorem dX6_hasNoNegativeSlack_23 : decode cX6_hasNoNegativeSlack 23 = .ok (.goto (-21), 3) := by decide +kernel
theorem dX6_hasNoNegativeSlack_26 : decode cX6_hasNoNegativeSlack 26 = .ok (.iconst 1, 1) := by decide +kernel
theorem dX6_hasNoNegativeSlack_27 : decode cX6_hasNoNegativeSlack 27 = .ok (.ireturn, 1) := by decide +kernel
theorem dX6_build_0 : decode cX6_build 0 = .ok (.aload_n 1, 1) := by decide +kernel
theorem dX6_build_1 : decode cX6_build 1 = .ok (.aload_n 0, 1) := by decide +kernel
theorem dX6_build_2 : decode cX6_build 2 = .ok (.getfield 21, 3) := by decide +kernel
theorem dX6_build_5 : decode cX6_build 5 = .ok (.invokevirtual 64, 3) := by decide +kernel
theorem dX6_build_8 : decode cX6_build 8 = .ok (.iconst 0, 1) := by decide +kernel
theorem dX6_build_9 : decode cX6_build 9 = .ok (.istore_n 3, 1) := by decide +kernel
theorem dX6_build_10 : decode cX6_build 10 = .ok (.iload_n 3, 1) := by decide +kernel
theorem dX6_build_11 : decode cX6_build 11 = .ok (.aload_n 0, 1) := by decide +kernel
theorem dX6_build_12 : decode cX6_build 12 = .ok (.getfield 21, 3) := by decide +kernel
theorem dX6_build_15 : decode cX6_build 15 = .ok (.if_icmp .ge 21, 3) := by decide +kernel
theorem dX6_build_18 : decode cX6_build 18 = .ok (.aload_n 0, 1) := by decide +kernel
theorem dX6_build_19 : decode cX6_build 19 = .ok (.getfield 18, 3) := by decide +kernel
theorem dX6_build_22 : decode cX6_build 22 = .ok (.iload_n 3, 1) := by decide +kernel
theorem dX6_build_23 : decode cX6_build 23 = .ok (.aload_n 0, 1) := by decide +kernel
theorem dX6_build_24 : decode cX6_build 24 = .ok (.getfield 9, 3) := by decide +kernel
theorem dX6_build_27 : decode cX6_build 27 = .ok (.iload_n 3, 1) := by decide +kernel
theorem dX6_build_28 : decode cX6_build 28 = .ok (.iaload, 1) := by decide +kernel
theorem dX6_build_29 : decode cX6_build 29 = .ok (.iastore, 1) := by decide +kernel
theorem dX6_build_30 : decode cX6_build 30 = .ok (.iinc 3 1, 3) := by decide +kernel
theorem dX6_build_33 : decode cX6_build 33 = .ok (.goto (-23), 3) := by decide +kernel
theorem dX6_build_36 : decode cX6_build 36 = .ok (.iload_n 2, 1) := by decide +kernel
theorem dX6_build_37 : decode cX6_build 37 = .ok (.ifCond .ne 11, 3) := by decide +kernel
theorem dX6_build_40 : decode cX6_build 40 = .ok (.aload_n 0, 1) := by decide +kernel
theorem dX6_build_41 : decode cX6_build 41 = .ok (.aload_n 1, 1) := by decide +kernel
theorem dX6_build_42 : decode cX6_build 42 = .ok (.invokevirtual 66, 3) := by decide +kernel
theorem dX6_build_45 : decode cX6_build 45 = .ok (.goto 21, 3) := by decide +kernel
theorem dX6_build_48 : decode cX6_build 48 = .ok (.iload_n 2, 1) := by decide +kernel
theorem dX6_build_49 : decode cX6_build 49 = .ok (.iconst 1, 1) := by decide +kernel
theorem dX6_build_50 : decode cX6_build 50 = .ok (.if_icmp .ne 11, 3) := by decide +kernel
theorem dX6_build_53 : decode cX6_build 53 = .ok (.aload_n 0, 1) := by decide +kernel
theorem dX6_build_54 : decode cX6_build 54 = .ok (.aload_n 1, 1) := by decide +kernel
theorem dX6_build_55 : decode cX6_build 55 = .ok (.invokevirtual 70, 3) := by decide +kernel
theorem dX6_build_58 : decode cX6_build 58 = .ok (.goto 8, 3) := by decide +kernel
theorem dX6_build_61 : decode cX6_build 61 = .ok (.aload_n 0, 1) := by decide +kernel
theorem dX6_build_62 : decode cX6_build 62 = .ok (.aload_n 1, 1) := by decide +kernel
theorem dX6_build_63 : decode cX6_build 63 = .ok (.invokevirtual 73, 3) := by decide +kernel
theorem dX6_build_66 : decode cX6_build 66 = .ok (.return_, 1) := by decide +kernel
theorem dX6_buildWithLoops_0 : decode cX6_buildWithLoops 0 = .ok (.iconst (-1), 1) := by decide +kernel
theorem dX6_buildWithLoops_1 : decode cX6_buildWithLoops 1 = .ok (.istore_n 2, 1) := by decide +kernel
theorem dX6_buildWithLoops_2 : decode cX6_buildWithLoops 2 = .ok (.iconst 0, 1) := by decide +kernel
theorem dX6_buildWithLoops_3 : decode cX6_buildWithLoops 3 = .ok (.istore_n 3, 1) := by decide +kernel
theorem dX6_buildWithLoops_4 : decode cX6_buildWithLoops 4 = .ok (.iload_n 3, 1) := by decide +kernel
theorem dX6_buildWithLoops_5 : decode cX6_buildWithLoops 5 = .ok (.aload_n 0, 1) := by decide +kernel
theorem dX6_buildWithLoops_6 : decode cX6_buildWithLoops 6 = .ok (.getfield 21, 3) := by decide +kernel
theorem dX6_buildWithLoops_9 : decode cX6_buildWithLoops 9 = .ok (.if_icmp .ge 64, 3) := by decide +kernel
theorem dX6_buildWithLoops_12 : decode cX6_buildWithLoops 12 = .ok (.aload_n 1, 1) := by decide +kernel
theorem dX6_buildWithLoops_13 : decode cX6_buildWithLoops 13 = .ok (.iload_n 3, 1) := by decide +kernel
theorem dX6_buildWithLoops_14 : decode cX6_buildWithLoops 14 = .ok (.iload_n 3, 1) := by decide +kernel
theorem dX6_buildWithLoops_15 : decode cX6_buildWithLoops 15 = .ok (.aload_n 0, 1) := by decide +kernel
theorem dX6_buildWithLoops_16 : decode cX6_buildWithLoops 16 = .ok (.getfield 18, 3) := by decide +kernel
theorem dX6_buildWithLoops_19 : decode cX6_buildWithLoops 19 = .ok (.iload_n 3, 1) := by decide +kernel
theorem dX6_buildWithLoops_20 : decode cX6_buildWithLoops 20 = .ok (.iaload, 1) := by decide +kernel
theorem dX6_buildWithLoops_21 : decode cX6_buildWithLoops 21 = .ok (.iconst 2, 1) := by decide +kernel
theorem dX6_buildWithLoops_22 : decode cX6_buildWithLoops 22 = .ok (.idiv, 1) := by decide +kernel
theorem dX6_buildWithLoops_23 : decode cX6_buildWithLoops 23 = .ok (.invokevirtual 76, 3) := by decide +kernel
theorem dX6_buildWithLoops_26 : decode cX6_buildWithLoops 26 = .ok (.aload_n 0, 1) := by decide +kernel
theorem dX6_buildWithLoops_27 : decode cX6_buildWithLoops 27 = .ok (.getfield 18, 3) := by decide +kernel
theorem dX6_buildWithLoops_30 : decode cX6_buildWithLoops 30 = .ok (.iload_n 3, 1) := by decide +kernel
theorem dX6_buildWithLoops_31 : decode cX6_buildWithLoops 31 = .ok (.iaload, 1) := by decide +kernel
theorem dX6_buildWithLoops_32 : decode cX6_buildWithLoops 32 = .ok (.iconst 2, 1) := by decide +kernel
theorem dX6_buildWithLoops_33 : decode cX6_buildWithLoops 33 = .ok (.irem, 1) := by decide +kernel
theorem dX6_buildWithLoops_34 : decode cX6_buildWithLoops 34 = .ok (.ifCond .eq 13, 3) := by decide +kernel
theorem dX6_buildWithLoops_37 : decode cX6_buildWithLoops 37 = .ok (.iload_n 2, 1) := by decide +kernel
theorem dX6_buildWithLoops_38 : decode cX6_buildWithLoops 38 = .ok (.iconst (-1), 1) := by decide +kernel
theorem dX6_buildWithLoops_39 : decode cX6_buildWithLoops 39 = .ok (.if_icmp .ne 8, 3) := by decide +kernel
theorem dX6_buildWithLoops_42 : decode cX6_buildWithLoops 42 = .ok (.iload_n 3, 1) := by decide +kernel
theorem dX6_buildWithLoops_43 : decode cX6_buildWithLoops 43 = .ok (.istore_n 2, 1) := by decide +kernel
theorem dX6_buildWithLoops_44 : decode cX6_buildWithLoops 44 = .ok (.goto 23, 3) := by decide +kernel
theorem dX6_buildWithLoops_47 : decode cX6_buildWithLoops 47 = .ok (.aload_n 0, 1) := by decide +kernel
theorem dX6_buildWithLoops_48 : decode cX6_buildWithLoops 48 = .ok (.getfield 18, 3) := by decide +kernel
theorem dX6_buildWithLoops_51 : decode cX6_buildWithLoops 51 = .ok (.iload_n 3, 1) := by decide +kernel
theorem dX6_buildWithLoops_52 : decode cX6_buildWithLoops 52 = .ok (.iaload, 1) := by decide +kernel
theorem dX6_buildWithLoops_53 : decode cX6_buildWithLoops 53 = .ok (.iconst 2, 1) := by decide +kernel
theorem dX6_buildWithLoops_54 : decode cX6_buildWithLoops 54 = .ok (.irem, 1) := by decide +kernel
theorem dX6_buildWithLoops_55 : decode cX6_buildWithLoops 55 = .ok (.ifCond .eq 12, 3) := by decide +kernel
theorem dX6_buildWithLoops_58 : decode cX6_buildWithLoops 58 = .ok (.aload_n 1, 1) := by decide +kernel
theorem dX6_buildWithLoops_59 : decode cX6_buildWithLoops 59 = .ok (.iload_n 2, 1) := by decide +kernel
theorem dX6_buildWithLoops_60 : decode cX6_buildWithLoops 60 = .ok (.iload_n 3, 1) := by decide +kernel
theorem dX6_buildWithLoops_61 : decode cX6_buildWithLoops 61 = .ok (.iconst 1, 1) := by decide +kernel
theorem dX6_buildWithLoops_62 : decode cX6_buildWithLoops 62 = .ok (.invokevirtual 76, 3) := by decide +kernel
theorem dX6_buildWithLoops_65 : decode cX6_buildWithLoops 65 = .ok (.iconst (-1), 1) := by decide +kernel
theorem dX6_buildWithLoops_66 : decode cX6_buildWithLoops 66 = .ok (.istore_n 2, 1) := by decide +kernel
theorem dX6_buildWithLoops_67 : decode cX6_buildWithLoops 67 = .ok (.iinc 3 1, 3) := by decide +kernel
theorem dX6_buildWithLoops_70 : decode cX6_buildWithLoops 70 = .ok (.goto (-66), 3) := by decide +kernel
theorem dX6_buildWithLoops_73 : decode cX6_buildWithLoops 73 = .ok (.return_, 1) := by decide +kernel
theorem dX6_buildWithoutLoops_0 : decode cX6_buildWithoutLoops 0 = .ok (.iconst 0, 1) := by decide +kernel
theorem dX6_buildWithoutLoops_1 : decode cX6_buildWithoutLoops 1 = .ok (.istore_n 2, 1) := by decide +kernel
theorem dX6_buildWithoutLoops_2 : decode cX6_buildWithoutLoops 2 = .ok (.iload_n 2, 1) := by decide +kernel
theorem dX6_buildWithoutLoops_3 : decode cX6_buildWithoutLoops 3 = .ok (.bipush 16, 2) := by decide +kernel
theorem dX6_buildWithoutLoops_5 : decode cX6_buildWithoutLoops 5 = .ok (.if_icmp .ge 34, 3) := by decide +kernel
theorem dX6_buildWithoutLoops_8 : decode cX6_buildWithoutLoops 8 = .ok (.aload_n 0, 1) := by decide +kernel
theorem dX6_buildWithoutLoops_9 : decode cX6_buildWithoutLoops 9 = .ok (.iconst 0, 1) := by decide +kernel
theorem dX6_buildWithoutLoops_10 : decode cX6_buildWithoutLoops 10 = .ok (.invokevirtual 80, 3) := by decide +kernel
theorem dX6_buildWithoutLoops_13 : decode cX6_buildWithoutLoops 13 = .ok (.istore_n 3, 1) := by decide +kernel
theorem dX6_buildWithoutLoops_14 : decode cX6_buildWithoutLoops 14 = .ok (.iload_n 3, 1) := by decide +kernel
theorem dX6_buildWithoutLoops_15 : decode cX6_buildWithoutLoops 15 = .ok (.iconst (-1), 1) := by decide +kernel
theorem dX6_buildWithoutLoops_16 : decode cX6_buildWithoutLoops 16 = .ok (.if_icmp .ne 4, 3) := by decide +kernel
theorem dX6_buildWithoutLoops_19 : decode cX6_buildWithoutLoops 19 = .ok (.return_, 1) := by decide +kernel
theorem dX6_buildWithoutLoops_20 : decode cX6_buildWithoutLoops 20 = .ok (.aload_n 0, 1) := by decide +kernel
theorem dX6_buildWithoutLoops_21 : decode cX6_buildWithoutLoops 21 = .ok (.aload_n 1, 1) := by decide +kernel
theorem dX6_buildWithoutLoops_22 : decode cX6_buildWithoutLoops 22 = .ok (.iload_n 3, 1) := by decide +kernel
theorem dX6_buildWithoutLoops_23 : decode cX6_buildWithoutLoops 23 = .ok (.aload_n 0, 1) := by decide +kernel
theorem dX6_buildWithoutLoops_24 : decode cX6_buildWithoutLoops 24 = .ok (.iconst 1, 1) := by decide +kernel
theorem dX6_buildWithoutLoops_25 : decode cX6_buildWithoutLoops 25 = .ok (.iload_n 3, 1) := by decide +kernel
theorem dX6_buildWithoutLoops_26 : decode cX6_buildWithoutLoops 26 = .ok (.ishl, 1) := by decide +kernel
theorem dX6_buildWithoutLoops_27 : decode cX6_buildWithoutLoops 27 = .ok (.invokevirtual 80, 3) := by decide +kernel
theorem dX6_buildWithoutLoops_30 : decode cX6_buildWithoutLoops 30 = .ok (.invokevirtual 83, 3) := by decide +kernel
theorem dX6_buildWithoutLoops_33 : decode cX6_buildWithoutLoops 33 = .ok (.iinc 2 1, 3) := by decide +kernel
theorem dX6_buildWithoutLoops_36 : decode cX6_buildWithoutLoops 36 = .ok (.goto (-34), 3) := by decide +kernel
theorem dX6_buildWithoutLoops_39 : decode cX6_buildWithoutLoops 39 = .ok (.return_, 1) := by decide +kernel
theorem dX6_buildSimple_0 : decode cX6_buildSimple 0 = .ok (.iconst 0, 1) := by decide +kernel
theorem dX6_buildSimple_1 : decode cX6_buildSimple 1 = .ok (.istore_n 2, 1) := by decide +kernel
theorem dX6_buildSimple_2 : decode cX6_buildSimple 2 = .ok (.iload_n 2, 1) := by decide +kernel
theorem dX6_buildSimple_3 : decode cX6_buildSimple 3 = .ok (.bipush 8, 2) := by decide +kernel
theorem dX6_buildSimple_5 : decode cX6_buildSimple 5 = .ok (.if_icmp .ge 87, 3) := by decide +kernel
theorem dX6_buildSimple_8 : decode cX6_buildSimple 8 = .ok (.aload_n 0, 1) := by decide +kernel
theorem dX6_buildSimple_9 : decode cX6_buildSimple 9 = .ok (.iconst 0, 1) := by decide +kernel
theorem dX6_buildSimple_10 : decode cX6_buildSimple 10 = .ok (.invokevirtual 80, 3) := by decide +kernel
theorem dX6_buildSimple_13 : decode cX6_buildSimple 13 = .ok (.istore_n 3, 1) := by decide +kernel
theorem dX6_buildSimple_14 : decode cX6_buildSimple 14 = .ok (.iload_n 3, 1) := by decide +kernel
theorem dX6_buildSimple_15 : decode cX6_buildSimple 15 = .ok (.iconst (-1), 1) := by decide +kernel
theorem dX6_buildSimple_16 : decode cX6_buildSimple 16 = .ok (.if_icmp .ne 4, 3) := by decide +kernel
theorem dX6_buildSimple_19 : decode cX6_buildSimple 19 = .ok (.return_, 1) := by decide +kernel
theorem dX6_buildSimple_20 : decode cX6_buildSimple 20 = .ok (.iconst 1, 1) := by decide +kernel
theorem dX6_buildSimple_21 : decode cX6_buildSimple 21 = .ok (.iload_n 3, 1) := by decide +kernel
theorem dX6_buildSimple_22 : decode cX6_buildSimple 22 = .ok (.ishl, 1) := by decide +kernel
theorem dX6_buildSimple_23 : decode cX6_buildSimple 23 = .ok (.istore 4, 2) := by decide +kernel
theorem dX6_buildSimple_25 : decode cX6_buildSimple 25 = .ok (.aload_n 0, 1) := by decide +kernel
theorem dX6_buildSimple_26 : decode cX6_buildSimple 26 = .ok (.getfield 18, 3) := by decide +kernel
theorem dX6_buildSimple_29 : decode cX6_buildSimple 29 = .ok (.iload_n 3, 1) := by decide +kernel
theorem dX6_buildSimple_30 : decode cX6_buildSimple 30 = .ok (.iaload, 1) := by decide +kernel
theorem dX6_buildSimple_31 : decode cX6_buildSimple 31 = .ok (.aload_n 0, 1) := by decide +kernel
theorem dX6_buildSimple_32 : decode cX6_buildSimple 32 = .ok (.getfield 21, 3) := by decide +kernel
theorem dX6_buildSimple_35 : decode cX6_buildSimple 35 = .ok (.invokestatic 52, 3) := by decide +kernel
theorem dX6_buildSimple_38 : decode cX6_buildSimple 38 = .ok (.istore 5, 2) := by decide +kernel
theorem dX6_buildSimple_40 : decode cX6_buildSimple 40 = .ok (.iload 5, 2) := by decide +kernel
theorem dX6_buildSimple_42 : decode cX6_buildSimple 42 = .ok (.ifCond .le 44, 3) := by decide +kernel
theorem dX6_buildSimple_45 : decode cX6_buildSimple 45 = .ok (.aload_n 0, 1) := by decide +kernel
theorem dX6_buildSimple_46 : decode cX6_buildSimple 46 = .ok (.iload 4, 2) := by decide +kernel
theorem dX6_buildSimple_48 : decode cX6_buildSimple 48 = .ok (.invokevirtual 80, 3) := by decide +kernel
theorem dX6_buildSimple_51 : decode cX6_buildSimple 51 = .ok (.istore 6, 2) := by decide +kernel
theorem dX6_buildSimple_53 : decode cX6_buildSimple 53 = .ok (.aload_n 0, 1) := by decide +kernel
theorem dX6_buildSimple_54 : decode cX6_buildSimple 54 = .ok (.aload_n 1, 1) := by decide +kernel
theorem dX6_buildSimple_55 : decode cX6_buildSimple 55 = .ok (.iload_n 3, 1) := by decide +kernel
theorem dX6_buildSimple_56 : decode cX6_buildSimple 56 = .ok (.iload 6, 2) := by decide +kernel
theorem dX6_buildSimple_58 : decode cX6_buildSimple 58 = .ok (.invokevirtual 83, 3) := by decide +kernel
theorem dX6_buildSimple_61 : decode cX6_buildSimple 61 = .ok (.iload 4, 2) := by decide +kernel
theorem dX6_buildSimple_63 : decode cX6_buildSimple 63 = .ok (.iload 6, 2) := by decide +kernel
theorem dX6_buildSimple_65 : decode cX6_buildSimple 65 = .ok (.iconst (-1), 1) := by decide +kernel
theorem dX6_buildSimple_66 : decode cX6_buildSimple 66 = .ok (.if_icmp .ne 7, 3) := by decide +kernel
theorem dX6_buildSimple_69 : decode cX6_buildSimple 69 = .ok (.iconst 0, 1) := by decide +kernel
theorem dX6_buildSimple_70 : decode cX6_buildSimple 70 = .ok (.goto 7, 3) := by decide +kernel
theorem dX6_buildSimple_73 : decode cX6_buildSimple 73 = .ok (.iconst 1, 1) := by decide +kernel
theorem dX6_buildSimple_74 : decode cX6_buildSimple 74 = .ok (.iload 6, 2) := by decide +kernel
theorem dX6_buildSimple_76 : decode cX6_buildSimple 76 = .ok (.ishl, 1) := by decide +kernel
theorem dX6_buildSimple_77 : decode cX6_buildSimple 77 = .ok (.ior, 1) := by decide +kernel
theorem dX6_buildSimple_78 : decode cX6_buildSimple 78 = .ok (.istore 4, 2) := by decide +kernel
theorem dX6_buildSimple_80 : decode cX6_buildSimple 80 = .ok (.iinc 5 (-1), 3) := by decide +kernel
theorem dX6_buildSimple_83 : decode cX6_buildSimple 83 = .ok (.goto (-43), 3) := by decide +kernel
theorem dX6_buildSimple_86 : decode cX6_buildSimple 86 = .ok (.iinc 2 1, 3) := by decide +kernel
theorem dX6_buildSimple_89 : decode cX6_buildSimple 89 = .ok (.goto (-87), 3) := by decide +kernel
theorem dX6_buildSimple_92 : decode cX6_buildSimple 92 = .ok (.return_, 1) := by decide +kernel
theorem dX6_join_0 : decode cX6_join 0 = .ok (.iload_n 3, 1) := by decide +kernel
theorem dX6_join_1 : decode cX6_join 1 = .ok (.iconst (-1), 1) := by decide +kernel
theorem dX6_join_2 : decode cX6_join 2 = .ok (.if_icmp .ne 4, 3) := by decide +kernel
theorem dX6_join_5 : decode cX6_join 5 = .ok (.return_, 1) := by decide +kernel
theorem dX6_join_6 : decode cX6_join 6 = .ok (.aload_n 1, 1) := by decide +kernel
theorem dX6_join_7 : decode cX6_join 7 = .ok (.iload_n 2, 1) := by decide +kernel
theorem dX6_join_8 : decode cX6_join 8 = .ok (.iload_n 3, 1) := by decide +kernel
theorem dX6_join_9 : decode cX6_join 9 = .ok (.iconst 1, 1) := by decide +kernel
theorem dX6_join_10 : decode cX6_join 10 = .ok (.invokevirtual 76, 3) := by decide +kernel
theorem dX6_join_13 : decode cX6_join 13 = .ok (.aload_n 0, 1) := by decide +kernel
theorem dX6_join_14 : decode cX6_join 14 = .ok (.getfield 18, 3) := by decide +kernel
theorem dX6_join_17 : decode cX6_join 17 = .ok (.iload_n 2, 1) := by decide +kernel
theorem dX6_join_18 : decode cX6_join 18 = .ok (.dup2, 1) := by decide +kernel
theorem dX6_join_19 : decode cX6_join 19 = .ok (.iaload, 1) := by decide +kernel
theorem dX6_join_20 : decode cX6_join 20 = .ok (.iconst 1, 1) := by decide +kernel
theorem dX6_join_21 : decode cX6_join 21 = .ok (.isub, 1) := by decide +kernel
theorem dX6_join_22 : decode cX6_join 22 = .ok (.iastore, 1) := by decide +kernel
theorem dX6_join_23 : decode cX6_join 23 = .ok (.aload_n 0, 1) := by decide +kernel
theorem dX6_join_24 : decode cX6_join 24 = .ok (.getfield 18, 3) := by decide +kernel
theorem dX6_join_27 : decode cX6_join 27 = .ok (.iload_n 3, 1) := by decide +kernel
theorem dX6_join_28 : decode cX6_join 28 = .ok (.dup2, 1) := by decide +kernel
theorem dX6_join_29 : decode cX6_join 29 = .ok (.iaload, 1) := by decide +kernel
theorem dX6_join_30 : decode cX6_join 30 = .ok (.iconst 1, 1) := by decide +kernel
theorem dX6_join_31 : decode cX6_join 31 = .ok (.isub, 1) := by decide +kernel
theorem dX6_join_32 : decode cX6_join 32 = .ok (.iastore, 1) := by decide +kernel
theorem dX6_join_33 : decode cX6_join 33 = .ok (.return_, 1) := by decide +kernel
theorem dX6_neediestBut_0 : decode cX6_neediestBut 0 = .ok (.iconst (-1), 1) := by decide +kernel
theorem dX6_neediestBut_1 : decode cX6_neediestBut 1 = .ok (.istore_n 2, 1) := by decide +kernel
theorem dX6_neediestBut_2 : decode cX6_neediestBut 2 = .ok (.iconst 0, 1) := by decide +kernel
theorem dX6_neediestBut_3 : decode cX6_neediestBut 3 = .ok (.istore_n 3, 1) := by decide +kernel
theorem dX6_neediestBut_4 : decode cX6_neediestBut 4 = .ok (.iconst 0, 1) := by decide +kernel
theorem dX6_neediestBut_5 : decode cX6_neediestBut 5 = .ok (.istore 4, 2) := by decide +kernel
theorem dX6_neediestBut_7 : decode cX6_neediestBut 7 = .ok (.iload 4, 2) := by decide +kernel
theorem dX6_neediestBut_9 : decode cX6_neediestBut 9 = .ok (.aload_n 0, 1) := by decide +kernel
theorem dX6_neediestBut_10 : decode cX6_neediestBut 10 = .ok (.getfield 21, 3) := by decide +kernel
theorem dX6_neediestBut_13 : decode cX6_neediestBut 13 = .ok (.if_icmp .ge 40, 3) := by decide +kernel
theorem dX6_neediestBut_16 : decode cX6_neediestBut 16 = .ok (.aload_n 0, 1) := by decide +kernel
theorem dX6_neediestBut_17 : decode cX6_neediestBut 17 = .ok (.getfield 18, 3) := by decide +kernel
theorem dX6_neediestBut_20 : decode cX6_neediestBut 20 = .ok (.iload 4, 2) := by decide +kernel
theorem dX6_neediestBut_22 : decode cX6_neediestBut 22 = .ok (.iaload, 1) := by decide +kernel
theorem dX6_neediestBut_23 : decode cX6_neediestBut 23 = .ok (.iload_n 3, 1) := by decide +kernel
theorem dX6_neediestBut_24 : decode cX6_neediestBut 24 = .ok (.if_icmp .le 23, 3) := by decide +kernel
theorem dX6_neediestBut_27 : decode cX6_neediestBut 27 = .ok (.iload_n 1, 1) := by decide +kernel
theorem dX6_neediestBut_28 : decode cX6_neediestBut 28 = .ok (.iload 4, 2) := by decide +kernel
theorem dX6_neediestBut_30 : decode cX6_neediestBut 30 = .ok (.ishr, 1) := by decide +kernel
theorem dX6_neediestBut_31 : decode cX6_neediestBut 31 = .ok (.iconst 1, 1) := by decide +kernel
theorem dX6_neediestBut_32 : decode cX6_neediestBut 32 = .ok (.iand, 1) := by decide +kernel
theorem dX6_neediestBut_33 : decode cX6_neediestBut 33 = .ok (.ifCond .ne 14, 3) := by decide +kernel
theorem dX6_neediestBut_36 : decode cX6_neediestBut 36 = .ok (.aload_n 0, 1) := by decide +kernel
theorem dX6_neediestBut_37 : decode cX6_neediestBut 37 = .ok (.getfield 18, 3) := by decide +kernel
theorem dX6_neediestBut_40 : decode cX6_neediestBut 40 = .ok (.iload 4, 2) := by decide +kernel
theorem dX6_neediestBut_42 : decode cX6_neediestBut 42 = .ok (.iaload, 1) := by decide +kernel
theorem dX6_neediestBut_43 : decode cX6_neediestBut 43 = .ok (.istore_n 3, 1) := by decide +kernel
theorem dX6_neediestBut_44 : decode cX6_neediestBut 44 = .ok (.iload 4, 2) := by decide +kernel
theorem dX6_neediestBut_46 : decode cX6_neediestBut 46 = .ok (.istore_n 2, 1) := by decide +kernel
theorem dX6_neediestBut_47 : decode cX6_neediestBut 47 = .ok (.iinc 4 1, 3) := by decide +kernel
theorem dX6_neediestBut_50 : decode cX6_neediestBut 50 = .ok (.goto (-43), 3) := by decide +kernel
theorem dX6_neediestBut_53 : decode cX6_neediestBut 53 = .ok (.iload_n 2, 1) := by decide +kernel
theorem dX6_neediestBut_54 : decode cX6_neediestBut 54 = .ok (.ireturn, 1) := by decide +kernel
theorem dX7_init_0 : decode cX7_init 0 = .ok (.aload_n 0, 1) := by decide +kernel
theorem dX7_init_1 : decode cX7_init 1 = .ok (.invokespecial 3, 3) := by decide +kernel
theorem dX7_init_4 : decode cX7_init 4 = .ok (.aload_n 0, 1) := by decide +kernel
theorem dX7_init_5 : decode cX7_init 5 = .ok (.sipush 1024, 3) := by decide +kernel
theorem dX7_init_8 : decode cX7_init 8 = .ok (.newarray .int, 2) := by decide +kernel
theorem dX7_init_10 : decode cX7_init 10 = .ok (.putfield 9, 3) := by decide +kernel
theorem dX7_init_13 : decode cX7_init 13 = .ok (.aload_n 0, 1) := by decide +kernel
theorem dX7_init_14 : decode cX7_init 14 = .ok (.iconst 0, 1) := by decide +kernel
theorem dX7_init_15 : decode cX7_init 15 = .ok (.putfield 15, 3) := by decide +kernel
theorem dX7_init_18 : decode cX7_init 18 = .ok (.return_, 1) := by decide +kernel
theorem dX7_fill_0 : decode cX7_fill 0 = .ok (.aload_n 0, 1) := by decide +kernel
theorem dX7_fill_1 : decode cX7_fill 1 = .ok (.iconst 0, 1) := by decide +kernel
theorem dX7_fill_2 : decode cX7_fill 2 = .ok (.putfield 15, 3) := by decide +kernel
theorem dX7_fill_5 : decode cX7_fill 5 = .ok (.iconst 0, 1) := by decide +kernel
theorem dX7_fill_6 : decode cX7_fill 6 = .ok (.istore_n 3, 1) := by decide +kernel
theorem dX7_fill_7 : decode cX7_fill 7 = .ok (.iload_n 3, 1) := by decide +kernel
theorem dX7_fill_8 : decode cX7_fill 8 = .ok (.aload_n 1, 1) := by decide +kernel
theorem dX7_fill_9 : decode cX7_fill 9 = .ok (.invokevirtual 19, 3) := by decide +kernel
theorem dX7_fill_12 : decode cX7_fill 12 = .ok (.if_icmp .ge 46, 3) := by decide +kernel
theorem dX7_fill_15 : decode cX7_fill 15 = .ok (.iconst 0, 1) := by decide +kernel
theorem dX7_fill_16 : decode cX7_fill 16 = .ok (.istore 4, 2) := by decide +kernel
theorem dX7_fill_18 : decode cX7_fill 18 = .ok (.iload 4, 2) := by decide +kernel
theorem dX7_fill_20 : decode cX7_fill 20 = .ok (.aload_n 1, 1) := by decide +kernel
theorem dX7_fill_21 : decode cX7_fill 21 = .ok (.invokevirtual 19, 3) := by decide +kernel
theorem dX7_fill_24 : decode cX7_fill 24 = .ok (.if_icmp .ge 28, 3) := by decide +kernel
theorem dX7_fill_27 : decode cX7_fill 27 = .ok (.aload_n 1, 1) := by decide +kernel
theorem dX7_fill_28 : decode cX7_fill 28 = .ok (.iload_n 3, 1) := by decide +kernel
theorem dX7_fill_29 : decode cX7_fill 29 = .ok (.iload 4, 2) := by decide +kernel
theorem dX7_fill_31 : decode cX7_fill 31 = .ok (.invokevirtual 25, 3) := by decide +kernel
theorem dX7_fill_34 : decode cX7_fill 34 = .ok (.ifCond .le 12, 3) := by decide +kernel
theorem dX7_fill_37 : decode cX7_fill 37 = .ok (.aload_n 0, 1) := by decide +kernel
theorem dX7_fill_38 : decode cX7_fill 38 = .ok (.aload_n 1, 1) := by decide +kernel
theorem dX7_fill_39 : decode cX7_fill 39 = .ok (.iload_n 2, 1) := by decide +kernel
theorem dX7_fill_40 : decode cX7_fill 40 = .ok (.iload_n 3, 1) := by decide +kernel
theorem dX7_fill_41 : decode cX7_fill 41 = .ok (.iload 4, 2) := by decide +kernel
theorem dX7_fill_43 : decode cX7_fill 43 = .ok (.invokevirtual 29, 3) := by decide +kernel
theorem dX7_fill_46 : decode cX7_fill 46 = .ok (.iinc 4 1, 3) := by decide +kernel
theorem dX7_fill_49 : decode cX7_fill 49 = .ok (.goto (-31), 3) := by decide +kernel
theorem dX7_fill_52 : decode cX7_fill 52 = .ok (.iinc 3 1, 3) := by decide +kernel
theorem dX7_fill_55 : decode cX7_fill 55 = .ok (.goto (-48), 3) := by decide +kernel
theorem dX7_fill_58 : decode cX7_fill 58 = .ok (.return_, 1) := by decide +kernel
theorem dX7_fillFrom_0 : decode cX7_fillFrom 0 = .ok (.iload_n 3, 1) := by decide +kernel
theorem dX7_fillFrom_1 : decode cX7_fillFrom 1 = .ok (.istore 5, 2) := by decide +kernel
theorem dX7_fillFrom_3 : decode cX7_fillFrom 3 = .ok (.iload 5, 2) := by decide +kernel
theorem dX7_fillFrom_5 : decode cX7_fillFrom 5 = .ok (.aload_n 1, 1) := by decide +kernel
theorem dX7_fillFrom_6 : decode cX7_fillFrom 6 = .ok (.invokevirtual 19, 3) := by decide +kernel
theorem dX7_fillFrom_9 : decode cX7_fillFrom 9 = .ok (.if_icmp .ge 80, 3) := by decide +kernel
theorem dX7_fillFrom_12 : decode cX7_fillFrom 12 = .ok (.iconst 0, 1) := by decide +kernel
theorem dX7_fillFrom_13 : decode cX7_fillFrom 13 = .ok (.istore 6, 2) := by decide +kernel
theorem dX7_fillFrom_15 : decode cX7_fillFrom 15 = .ok (.iload 6, 2) := by decide +kernel
theorem dX7_fillFrom_17 : decode cX7_fillFrom 17 = .ok (.aload_n 1, 1) := by decide +kernel
theorem dX7_fillFrom_18 : decode cX7_fillFrom 18 = .ok (.invokevirtual 19, 3) := by decide +kernel
theorem dX7_fillFrom_21 : decode cX7_fillFrom 21 = .ok (.if_icmp .ge 62, 3) := by decide +kernel
theorem dX7_fillFrom_24 : decode cX7_fillFrom 24 = .ok (.aload_n 1, 1) := by decide +kernel
theorem dX7_fillFrom_25 : decode cX7_fillFrom 25 = .ok (.iload 5, 2) := by decide +kernel
theorem dX7_fillFrom_27 : decode cX7_fillFrom 27 = .ok (.iload 6, 2) := by decide +kernel
theorem dX7_fillFrom_29 : decode cX7_fillFrom 29 = .ok (.invokevirtual 25, 3) := by decide +kernel
theorem dX7_fillFrom_32 : decode cX7_fillFrom 32 = .ok (.ifCond .le 45, 3) := by decide +kernel
theorem dX7_fillFrom_35 : decode cX7_fillFrom 35 = .ok (.iload_n 3, 1) := by decide +kernel
theorem dX7_fillFrom_36 : decode cX7_fillFrom 36 = .ok (.iload 4, 2) := by decide +kernel
theorem dX7_fillFrom_38 : decode cX7_fillFrom 38 = .ok (.iload 5, 2) := by decide +kernel
theorem dX7_fillFrom_40 : decode cX7_fillFrom 40 = .ok (.iload 6, 2) := by decide +kernel
theorem dX7_fillFrom_42 : decode cX7_fillFrom 42 = .ok (.invokestatic 33, 3) := by decide +kernel
theorem dX7_fillFrom_45 : decode cX7_fillFrom 45 = .ok (.ifCond .eq 32, 3) := by decide +kernel
theorem dX7_fillFrom_48 : decode cX7_fillFrom 48 = .ok (.aload_n 1, 1) := by decide +kernel
theorem dX7_fillFrom_49 : decode cX7_fillFrom 49 = .ok (.iload_n 2, 1) := by decide +kernel
theorem dX7_fillFrom_50 : decode cX7_fillFrom 50 = .ok (.iload_n 3, 1) := by decide +kernel
theorem dX7_fillFrom_51 : decode cX7_fillFrom 51 = .ok (.iload 4, 2) := by decide +kernel
theorem dX7_fillFrom_53 : decode cX7_fillFrom 53 = .ok (.iload 5, 2) := by decide +kernel
theorem dX7_fillFrom_55 : decode cX7_fillFrom 55 = .ok (.iload 6, 2) := by decide +kernel
theorem dX7_fillFrom_57 : decode cX7_fillFrom 57 = .ok (.invokevirtual 39, 3) := by decide +kernel
theorem dX7_fillFrom_60 : decode cX7_fillFrom 60 = .ok (.ifCond .ne 17, 3) := by decide +kernel
theorem dX7_fillFrom_63 : decode cX7_fillFrom 63 = .ok (.aload_n 0, 1) := by decide +kernel
theorem dX7_fillFrom_64 : decode cX7_fillFrom 64 = .ok (.iload_n 3, 1) := by decide +kernel
theorem dX7_fillFrom_65 : decode cX7_fillFrom 65 = .ok (.iload 4, 2) := by decide +kernel
theorem dX7_fillFrom_67 : decode cX7_fillFrom 67 = .ok (.iload 5, 2) := by decide +kernel
theorem dX7_fillFrom_69 : decode cX7_fillFrom 69 = .ok (.iload 6, 2) := by decide +kernel
theorem dX7_fillFrom_71 : decode cX7_fillFrom 71 = .ok (.invokestatic 43, 3) := by decide +kernel
theorem dX7_fillFrom_74 : decode cX7_fillFrom 74 = .ok (.invokevirtual 47, 3) := by decide +kernel
theorem dX7_fillFrom_77 : decode cX7_fillFrom 77 = .ok (.iinc 6 1, 3) := by decide +kernel
theorem dX7_fillFrom_80 : decode cX7_fillFrom 80 = .ok (.goto (-65), 3) := by decide +kernel
theorem dX7_fillFrom_83 : decode cX7_fillFrom 83 = .ok (.iinc 5 1, 3) := by decide +kernel
theorem dX7_fillFrom_86 : decode cX7_fillFrom 86 = .ok (.goto (-83), 3) := by decide +kernel
theorem dX7_fillFrom_89 : decode cX7_fillFrom 89 = .ok (.return_, 1) := by decide +kernel
theorem dX7_append_0 : decode cX7_append 0 = .ok (.aload_n 0, 1) := by decide +kernel
theorem dX7_append_1 : decode cX7_append 1 = .ok (.getfield 15, 3) := by decide +kernel
theorem dX7_append_4 : decode cX7_append 4 = .ok (.aload_n 0, 1) := by decide +kernel
theorem dX7_append_5 : decode cX7_append 5 = .ok (.getfield 9, 3) := by decide +kernel
theorem dX7_append_8 : decode cX7_append 8 = .ok (.arraylength, 1) := by decide +kernel
theorem dX7_append_9 : decode cX7_append 9 = .ok (.if_icmp .ge 23, 3) := by decide +kernel
theorem dX7_append_12 : decode cX7_append 12 = .ok (.aload_n 0, 1) := by decide +kernel
theorem dX7_append_13 : decode cX7_append 13 = .ok (.getfield 9, 3) := by decide +kernel
theorem dX7_append_16 : decode cX7_append 16 = .ok (.aload_n 0, 1) := by decide +kernel
theorem dX7_append_17 : decode cX7_append 17 = .ok (.getfield 15, 3) := by decide +kernel
theorem dX7_append_20 : decode cX7_append 20 = .ok (.iload_n 1, 1) := by decide +kernel
theorem dX7_append_21 : decode cX7_append 21 = .ok (.iastore, 1) := by decide +kernel
theorem dX7_append_22 : decode cX7_append 22 = .ok (.aload_n 0, 1) := by decide +kernel
theorem dX7_append_23 : decode cX7_append 23 = .ok (.dup, 1) := by decide +kernel
theorem dX7_append_24 : decode cX7_append 24 = .ok (.getfield 15, 3) := by decide +kernel
theorem dX7_append_27 : decode cX7_append 27 = .ok (.iconst 1, 1) := by decide +kernel
theorem dX7_append_28 : decode cX7_append 28 = .ok (.iadd, 1) := by decide +kernel
theorem dX7_append_29 : decode cX7_append 29 = .ok (.putfield 15, 3) := by decide +kernel
theorem dX7_append_32 : decode cX7_append 32 = .ok (.return_, 1) := by decide +kernel
theorem dX7_length_0 : decode cX7_length 0 = .ok (.aload_n 0, 1) := by decide +kernel
theorem dX7_length_1 : decode cX7_length 1 = .ok (.getfield 15, 3) := by decide +kernel
theorem dX7_length_4 : decode cX7_length 4 = .ok (.ireturn, 1) := by decide +kernel
theorem dX7_codeAt_0 : decode cX7_codeAt 0 = .ok (.aload_n 0, 1) := by decide +kernel
theorem dX7_codeAt_1 : decode cX7_codeAt 1 = .ok (.getfield 9, 3) := by decide +kernel
theorem dX7_codeAt_4 : decode cX7_codeAt 4 = .ok (.iload_n 1, 1) := by decide +kernel
theorem dX7_codeAt_5 : decode cX7_codeAt 5 = .ok (.iaload, 1) := by decide +kernel
theorem dX7_codeAt_6 : decode cX7_codeAt 6 = .ok (.ireturn, 1) := by decide +kernel
theorem dX8_init_0 : decode cX8_init 0 = .ok (.aload_n 0, 1) := by decide +kernel
theorem dX8_init_1 : decode cX8_init 1 = .ok (.invokespecial 3, 3) := by decide +kernel
theorem dX8_init_4 : decode cX8_init 4 = .ok (.aload_n 0, 1) := by decide +kernel
theorem dX8_init_5 : decode cX8_init 5 = .ok (.bipush 16, 2) := by decide +kernel
theorem dX8_init_7 : decode cX8_init 7 = .ok (.newarray .int, 2) := by decide +kernel
theorem dX8_init_9 : decode cX8_init 9 = .ok (.putfield 9, 3) := by decide +kernel
theorem dX8_init_12 : decode cX8_init 12 = .ok (.aload_n 0, 1) := by decide +kernel
theorem dX8_init_13 : decode cX8_init 13 = .ok (.new 15, 3) := by decide +kernel
theorem dX8_init_16 : decode cX8_init 16 = .ok (.dup, 1) := by decide +kernel
theorem dX8_init_17 : decode cX8_init 17 = .ok (.invokespecial 17, 3) := by decide +kernel
theorem dX8_init_20 : decode cX8_init 20 = .ok (.putfield 18, 3) := by decide +kernel
theorem dX8_init_23 : decode cX8_init 23 = .ok (.aload_n 0, 1) := by decide +kernel
theorem dX8_init_24 : decode cX8_init 24 = .ok (.iconst 0, 1) := by decide +kernel
theorem dX8_init_25 : decode cX8_init 25 = .ok (.putfield 22, 3) := by decide +kernel
theorem dX8_init_28 : decode cX8_init 28 = .ok (.return_, 1) := by decide +kernel
theorem dX8_find_0 : decode cX8_find 0 = .ok (.aload_n 0, 1) := by decide +kernel
theorem dX8_find_1 : decode cX8_find 1 = .ok (.getfield 18, 3) := by decide +kernel
theorem dX8_find_4 : decode cX8_find 4 = .ok (.aload_n 1, 1) := by decide +kernel
theorem dX8_find_5 : decode cX8_find 5 = .ok (.invokevirtual 26, 3) := by decide +kernel
theorem dX8_find_8 : decode cX8_find 8 = .ok (.aload_n 0, 1) := by decide +kernel
theorem dX8_find_9 : decode cX8_find 9 = .ok (.iconst 0, 1) := by decide +kernel
theorem dX8_find_10 : decode cX8_find 10 = .ok (.putfield 22, 3) := by decide +kernel
theorem dX8_find_13 : decode cX8_find 13 = .ok (.iconst 0, 1) := by decide +kernel
theorem dX8_find_14 : decode cX8_find 14 = .ok (.istore_n 3, 1) := by decide +kernel
theorem dX8_find_15 : decode cX8_find 15 = .ok (.iload_n 3, 1) := by decide +kernel
theorem dX8_find_16 : decode cX8_find 16 = .ok (.aload_n 0, 1) := by decide +kernel
theorem dX8_find_17 : decode cX8_find 17 = .ok (.getfield 9, 3) := by decide +kernel
theorem dX8_find_20 : decode cX8_find 20 = .ok (.arraylength, 1) := by decide +kernel
theorem dX8_find_21 : decode cX8_find 21 = .ok (.if_icmp .ge 50, 3) := by decide +kernel
theorem dX8_find_24 : decode cX8_find 24 = .ok (.aload_n 0, 1) := by decide +kernel
theorem dX8_find_25 : decode cX8_find 25 = .ok (.aload_n 2, 1) := by decide +kernel
theorem dX8_find_26 : decode cX8_find 26 = .ok (.invokevirtual 30, 3) := by decide +kernel
theorem dX8_find_29 : decode cX8_find 29 = .ok (.istore 4, 2) := by decide +kernel
theorem dX8_find_31 : decode cX8_find 31 = .ok (.iload 4, 2) := by decide +kernel
theorem dX8_find_33 : decode cX8_find 33 = .ok (.iconst (-1), 1) := by decide +kernel
theorem dX8_find_34 : decode cX8_find 34 = .ok (.if_icmp .ne 4, 3) := by decide +kernel
theorem dX8_find_37 : decode cX8_find 37 = .ok (.return_, 1) := by decide +kernel
theorem dX8_find_38 : decode cX8_find 38 = .ok (.aload_n 0, 1) := by decide +kernel
theorem dX8_find_39 : decode cX8_find 39 = .ok (.getfield 18, 3) := by decide +kernel
theorem dX8_find_42 : decode cX8_find 42 = .ok (.iload 4, 2) := by decide +kernel
theorem dX8_find_44 : decode cX8_find 44 = .ok (.invokevirtual 34, 3) := by decide +kernel
theorem dX8_find_47 : decode cX8_find 47 = .ok (.aload_n 0, 1) := by decide +kernel
theorem dX8_find_48 : decode cX8_find 48 = .ok (.getfield 9, 3) := by decide +kernel
theorem dX8_find_51 : decode cX8_find 51 = .ok (.iload_n 3, 1) := by decide +kernel
theorem dX8_find_52 : decode cX8_find 52 = .ok (.iload 4, 2) := by decide +kernel
theorem dX8_find_54 : decode cX8_find 54 = .ok (.iastore, 1) := by decide +kernel
theorem dX8_find_55 : decode cX8_find 55 = .ok (.aload_n 0, 1) := by decide +kernel
theorem dX8_find_56 : decode cX8_find 56 = .ok (.dup, 1) := by decide +kernel
theorem dX8_find_57 : decode cX8_find 57 = .ok (.getfield 22, 3) := by decide +kernel
theorem dX8_find_60 : decode cX8_find 60 = .ok (.iconst 1, 1) := by decide +kernel
theorem dX8_find_61 : decode cX8_find 61 = .ok (.iadd, 1) := by decide +kernel
theorem dX8_find_62 : decode cX8_find 62 = .ok (.putfield 22, 3) := by decide +kernel
theorem dX8_find_65 : decode cX8_find 65 = .ok (.iinc 3 1, 3) := by decide +kernel
theorem dX8_find_68 : decode cX8_find 68 = .ok (.goto (-53), 3) := by decide +kernel
theorem dX8_find_71 : decode cX8_find 71 = .ok (.return_, 1) := by decide +kernel
theorem dX8_nextTowards_0 : decode cX8_nextTowards 0 = .ok (.iconst 0, 1) := by decide +kernel
theorem dX8_nextTowards_1 : decode cX8_nextTowards 1 = .ok (.istore_n 2, 1) := by decide +kernel
theorem dX8_nextTowards_2 : decode cX8_nextTowards 2 = .ok (.iload_n 2, 1) := by decide +kernel
theorem dX8_nextTowards_3 : decode cX8_nextTowards 3 = .ok (.aload_n 0, 1) := by decide +kernel
theorem dX8_nextTowards_4 : decode cX8_nextTowards 4 = .ok (.getfield 18, 3) := by decide +kernel
theorem dX8_nextTowards_7 : decode cX8_nextTowards 7 = .ok (.invokevirtual 38, 3) := by decide +kernel
theorem dX8_nextTowards_10 : decode cX8_nextTowards 10 = .ok (.if_icmp .ge 54, 3) := by decide +kernel
theorem dX8_nextTowards_13 : decode cX8_nextTowards 13 = .ok (.iload_n 2, 1) := by decide +kernel
theorem dX8_nextTowards_14 : decode cX8_nextTowards 14 = .ok (.istore_n 3, 1) := by decide +kernel
theorem dX8_nextTowards_15 : decode cX8_nextTowards 15 = .ok (.iload_n 3, 1) := by decide +kernel
theorem dX8_nextTowards_16 : decode cX8_nextTowards 16 = .ok (.aload_n 0, 1) := by decide +kernel
theorem dX8_nextTowards_17 : decode cX8_nextTowards 17 = .ok (.getfield 18, 3) := by decide +kernel
theorem dX8_nextTowards_20 : decode cX8_nextTowards 20 = .ok (.invokevirtual 38, 3) := by decide +kernel
theorem dX8_nextTowards_23 : decode cX8_nextTowards 23 = .ok (.if_icmp .ge 35, 3) := by decide +kernel
theorem dX8_nextTowards_26 : decode cX8_nextTowards 26 = .ok (.aload_n 1, 1) := by decide +kernel
theorem dX8_nextTowards_27 : decode cX8_nextTowards 27 = .ok (.iload_n 2, 1) := by decide +kernel
theorem dX8_nextTowards_28 : decode cX8_nextTowards 28 = .ok (.iload_n 3, 1) := by decide +kernel
theorem dX8_nextTowards_29 : decode cX8_nextTowards 29 = .ok (.invokevirtual 42, 3) := by decide +kernel
theorem dX8_nextTowards_32 : decode cX8_nextTowards 32 = .ok (.aload_n 0, 1) := by decide +kernel
theorem dX8_nextTowards_33 : decode cX8_nextTowards 33 = .ok (.getfield 18, 3) := by decide +kernel
theorem dX8_nextTowards_36 : decode cX8_nextTowards 36 = .ok (.iload_n 2, 1) := by decide +kernel
theorem dX8_nextTowards_37 : decode cX8_nextTowards 37 = .ok (.iload_n 3, 1) := by decide +kernel
theorem dX8_nextTowards_38 : decode cX8_nextTowards 38 = .ok (.invokevirtual 42, 3) := by decide +kernel
theorem dX8_nextTowards_41 : decode cX8_nextTowards 41 = .ok (.if_icmp .le 11, 3) := by decide +kernel
theorem dX8_nextTowards_44 : decode cX8_nextTowards 44 = .ok (.aload_n 0, 1) := by decide +kernel
theorem dX8_nextTowards_45 : decode cX8_nextTowards 45 = .ok (.aload_n 1, 1) := by decide +kernel
theorem dX8_nextTowards_46 : decode cX8_nextTowards 46 = .ok (.iload_n 2, 1) := by decide +kernel
theorem dX8_nextTowards_47 : decode cX8_nextTowards 47 = .ok (.iload_n 3, 1) := by decide +kernel
theorem dX8_nextTowards_48 : decode cX8_nextTowards 48 = .ok (.invokevirtual 46, 3) := by decide +kernel
theorem dX8_nextTowards_51 : decode cX8_nextTowards 51 = .ok (.ireturn, 1) := by decide +kernel
theorem dX8_nextTowards_52 : decode cX8_nextTowards 52 = .ok (.iinc 3 1, 3) := by decide +kernel
theorem dX8_nextTowards_55 : decode cX8_nextTowards 55 = .ok (.goto (-40), 3) := by decide +kernel
theorem dX8_nextTowards_58 : decode cX8_nextTowards 58 = .ok (.iinc 2 1, 3) := by decide +kernel
theorem dX8_nextTowards_61 : decode cX8_nextTowards 61 = .ok (.goto (-59), 3) := by decide +kernel
theorem dX8_nextTowards_64 : decode cX8_nextTowards 64 = .ok (.iconst (-1), 1) := by decide +kernel
theorem dX8_nextTowards_65 : decode cX8_nextTowards 65 = .ok (.ireturn, 1) := by decide +kernel
theorem dX8_codeThatJoins_0 : decode cX8_codeThatJoins 0 = .ok (.aload_n 0, 1) := by decide +kernel
theorem dX8_codeThatJoins_1 : decode cX8_codeThatJoins 1 = .ok (.aload_n 1, 1) := by decide +kernel
theorem dX8_codeThatJoins_2 : decode cX8_codeThatJoins 2 = .ok (.iload_n 2, 1) := by decide +kernel
theorem dX8_codeThatJoins_3 : decode cX8_codeThatJoins 3 = .ok (.iconst (-1), 1) := by decide +kernel
theorem dX8_codeThatJoins_4 : decode cX8_codeThatJoins 4 = .ok (.invokevirtual 50, 3) := by decide +kernel
theorem dX8_codeThatJoins_7 : decode cX8_codeThatJoins 7 = .ok (.istore 4, 2) := by decide +kernel
theorem dX8_codeThatJoins_9 : decode cX8_codeThatJoins 9 = .ok (.aload_n 0, 1) := by decide +kernel
theorem dX8_codeThatJoins_10 : decode cX8_codeThatJoins 10 = .ok (.aload_n 1, 1) := by decide +kernel
theorem dX8_codeThatJoins_11 : decode cX8_codeThatJoins 11 = .ok (.iload_n 3, 1) := by decide +kernel
theorem dX8_codeThatJoins_12 : decode cX8_codeThatJoins 12 = .ok (.iload_n 2, 1) := by decide +kernel
theorem dX8_codeThatJoins_13 : decode cX8_codeThatJoins 13 = .ok (.iload_n 3, 1) := by decide +kernel
theorem dX8_codeThatJoins_14 : decode cX8_codeThatJoins 14 = .ok (.if_icmp .ne 8, 3) := by decide +kernel
theorem dX8_codeThatJoins_17 : decode cX8_codeThatJoins 17 = .ok (.iload 4, 2) := by decide +kernel
theorem dX8_codeThatJoins_19 : decode cX8_codeThatJoins 19 = .ok (.goto 4, 3) := by decide +kernel
theorem dX8_codeThatJoins_22 : decode cX8_codeThatJoins 22 = .ok (.iconst (-1), 1) := by decide +kernel
theorem dX8_codeThatJoins_23 : decode cX8_codeThatJoins 23 = .ok (.invokevirtual 50, 3) := by decide +kernel
theorem dX8_codeThatJoins_26 : decode cX8_codeThatJoins 26 = .ok (.istore 5, 2) := by decide +kernel
theorem dX8_codeThatJoins_28 : decode cX8_codeThatJoins 28 = .ok (.iload 4, 2) := by decide +kernel
theorem dX8_codeThatJoins_30 : decode cX8_codeThatJoins 30 = .ok (.iconst (-1), 1) := by decide +kernel
theorem dX8_codeThatJoins_31 : decode cX8_codeThatJoins 31 = .ok (.if_icmp .eq 9, 3) := by decide +kernel
theorem dX8_codeThatJoins_34 : decode cX8_codeThatJoins 34 = .ok (.iload 5, 2) := by decide +kernel
theorem dX8_codeThatJoins_36 : decode cX8_codeThatJoins 36 = .ok (.iconst (-1), 1) := by decide +kernel
theorem dX8_codeThatJoins_37 : decode cX8_codeThatJoins 37 = .ok (.if_icmp .ne 7, 3) := by decide +kernel
theorem dX8_codeThatJoins_40 : decode cX8_codeThatJoins 40 = .ok (.iconst (-1), 1) := by decide +kernel
theorem dX8_codeThatJoins_41 : decode cX8_codeThatJoins 41 = .ok (.goto 12, 3) := by decide +kernel
theorem dX8_codeThatJoins_44 : decode cX8_codeThatJoins 44 = .ok (.iload_n 2, 1) := by decide +kernel
theorem dX8_codeThatJoins_45 : decode cX8_codeThatJoins 45 = .ok (.iload 4, 2) := by decide +kernel
theorem dX8_codeThatJoins_47 : decode cX8_codeThatJoins 47 = .ok (.iload_n 3, 1) := by decide +kernel
theorem dX8_codeThatJoins_48 : decode cX8_codeThatJoins 48 = .ok (.iload 5, 2) := by decide +kernel
theorem dX8_codeThatJoins_50 : decode cX8_codeThatJoins 50 = .ok (.invokestatic 53, 3) := by decide +kernel
theorem dX8_codeThatJoins_53 : decode cX8_codeThatJoins 53 = .ok (.ireturn, 1) := by decide +kernel
theorem dX8_endOfSurplus_0 : decode cX8_endOfSurplus 0 = .ok (.iconst 0, 1) := by decide +kernel
theorem dX8_endOfSurplus_1 : decode cX8_endOfSurplus 1 = .ok (.istore 4, 2) := by decide +kernel
theorem dX8_endOfSurplus_3 : decode cX8_endOfSurplus 3 = .ok (.iload 4, 2) := by decide +kernel
theorem dX8_endOfSurplus_5 : decode cX8_endOfSurplus 5 = .ok (.aload_n 0, 1) := by decide +kernel
theorem dX8_endOfSurplus_6 : decode cX8_endOfSurplus 6 = .ok (.getfield 18, 3) := by decide +kernel
theorem dX8_endOfSurplus_9 : decode cX8_endOfSurplus 9 = .ok (.invokevirtual 38, 3) := by decide +kernel
theorem dX8_endOfSurplus_12 : decode cX8_endOfSurplus 12 = .ok (.if_icmp .ge 48, 3) := by decide +kernel
theorem dX8_endOfSurplus_15 : decode cX8_endOfSurplus 15 = .ok (.aload_n 0, 1) := by decide +kernel
theorem dX8_endOfSurplus_16 : decode cX8_endOfSurplus 16 = .ok (.getfield 18, 3) := by decide +kernel
theorem dX8_endOfSurplus_19 : decode cX8_endOfSurplus 19 = .ok (.iload_n 2, 1) := by decide +kernel
theorem dX8_endOfSurplus_20 : decode cX8_endOfSurplus 20 = .ok (.iload 4, 2) := by decide +kernel
theorem dX8_endOfSurplus_22 : decode cX8_endOfSurplus 22 = .ok (.invokevirtual 42, 3) := by decide +kernel
theorem dX8_endOfSurplus_25 : decode cX8_endOfSurplus 25 = .ok (.aload_n 1, 1) := by decide +kernel
theorem dX8_endOfSurplus_26 : decode cX8_endOfSurplus 26 = .ok (.iload_n 2, 1) := by decide +kernel
theorem dX8_endOfSurplus_27 : decode cX8_endOfSurplus 27 = .ok (.iload 4, 2) := by decide +kernel
theorem dX8_endOfSurplus_29 : decode cX8_endOfSurplus 29 = .ok (.invokevirtual 42, 3) := by decide +kernel
theorem dX8_endOfSurplus_32 : decode cX8_endOfSurplus 32 = .ok (.isub, 1) := by decide +kernel
theorem dX8_endOfSurplus_33 : decode cX8_endOfSurplus 33 = .ok (.istore 5, 2) := by decide +kernel
theorem dX8_endOfSurplus_35 : decode cX8_endOfSurplus 35 = .ok (.iload 5, 2) := by decide +kernel
theorem dX8_endOfSurplus_37 : decode cX8_endOfSurplus 37 = .ok (.iload 4, 2) := by decide +kernel
theorem dX8_endOfSurplus_39 : decode cX8_endOfSurplus 39 = .ok (.iload_n 3, 1) := by decide +kernel
theorem dX8_endOfSurplus_40 : decode cX8_endOfSurplus 40 = .ok (.if_icmp .ne 7, 3) := by decide +kernel
theorem dX8_endOfSurplus_43 : decode cX8_endOfSurplus 43 = .ok (.iconst 1, 1) := by decide +kernel
theorem dX8_endOfSurplus_44 : decode cX8_endOfSurplus 44 = .ok (.goto 4, 3) := by decide +kernel
theorem dX8_endOfSurplus_47 : decode cX8_endOfSurplus 47 = .ok (.iconst 0, 1) := by decide +kernel
theorem dX8_endOfSurplus_48 : decode cX8_endOfSurplus 48 = .ok (.if_icmp .le 6, 3) := by decide +kernel
theorem dX8_endOfSurplus_51 : decode cX8_endOfSurplus 51 = .ok (.iload 4, 2) := by decide +kernel
theorem dX8_endOfSurplus_53 : decode cX8_endOfSurplus 53 = .ok (.ireturn, 1) := by decide +kernel
theorem dX8_endOfSurplus_54 : decode cX8_endOfSurplus 54 = .ok (.iinc 4 1, 3) := by decide +kernel
theorem dX8_endOfSurplus_57 : decode cX8_endOfSurplus 57 = .ok (.goto (-54), 3) := by decide +kernel
theorem dX8_endOfSurplus_60 : decode cX8_endOfSurplus 60 = .ok (.iconst (-1), 1) := by decide +kernel
theorem dX8_endOfSurplus_61 : decode cX8_endOfSurplus 61 = .ok (.ireturn, 1) := by decide +kernel
theorem dX8_length_0 : decode cX8_length 0 = .ok (.aload_n 0, 1) := by decide +kernel
theorem dX8_length_1 : decode cX8_length 1 = .ok (.getfield 22, 3) := by decide +kernel
theorem dX8_length_4 : decode cX8_length 4 = .ok (.ireturn, 1) := by decide +kernel
theorem dX8_codeAt_0 : decode cX8_codeAt 0 = .ok (.aload_n 0, 1) := by decide +kernel
theorem dX8_codeAt_1 : decode cX8_codeAt 1 = .ok (.getfield 9, 3) := by decide +kernel
theorem dX8_codeAt_4 : decode cX8_codeAt 4 = .ok (.iload_n 1, 1) := by decide +kernel
theorem dX8_codeAt_5 : decode cX8_codeAt 5 = .ok (.iaload, 1) := by decide +kernel
theorem dX8_codeAt_6 : decode cX8_codeAt 6 = .ok (.ireturn, 1) := by decide +kernel
theorem dX9_init_0 : decode cX9_init 0 = .ok (.aload_n 0, 1) := by decide +kernel
theorem dX9_init_1 : decode cX9_init 1 = .ok (.invokespecial 1, 3) := by decide +kernel
theorem dX9_init_4 : decode cX9_init 4 = .ok (.aload_n 0, 1) := by decide +kernel
theorem dX9_init_5 : decode cX9_init 5 = .ok (.new 7, 3) := by decide +kernel
theorem dX9_init_8 : decode cX9_init 8 = .ok (.dup, 1) := by decide +kernel
theorem dX9_init_9 : decode cX9_init 9 = .ok (.invokespecial 9, 3) := by decide +kernel
theorem dX9_init_12 : decode cX9_init 12 = .ok (.putfield 10, 3) := by decide +kernel
theorem dX9_init_15 : decode cX9_init 15 = .ok (.aload_n 0, 1) := by decide +kernel
theorem dX9_init_16 : decode cX9_init 16 = .ok (.new 16, 3) := by decide +kernel
theorem dX9_init_19 : decode cX9_init 19 = .ok (.dup, 1) := by decide +kernel
theorem dX9_init_20 : decode cX9_init 20 = .ok (.invokespecial 18, 3) := by decide +kernel
theorem dX9_init_23 : decode cX9_init 23 = .ok (.putfield 19, 3) := by decide +kernel
theorem dX9_init_26 : decode cX9_init 26 = .ok (.aload_n 0, 1) := by decide +kernel
theorem dX9_init_27 : decode cX9_init 27 = .ok (.new 16, 3) := by decide +kernel
theorem dX9_init_30 : decode cX9_init 30 = .ok (.dup, 1) := by decide +kernel
theorem dX9_init_31 : decode cX9_init 31 = .ok (.invokespecial 18, 3) := by decide +kernel
theorem dX9_init_34 : decode cX9_init 34 = .ok (.putfield 23, 3) := by decide +kernel
theorem dX9_init_37 : decode cX9_init 37 = .ok (.aload_n 0, 1) := by decide +kernel
theorem dX9_init_38 : decode cX9_init 38 = .ok (.new 16, 3) := by decide +kernel
theorem dX9_init_41 : decode cX9_init 41 = .ok (.dup, 1) := by decide +kernel
theorem dX9_init_42 : decode cX9_init 42 = .ok (.invokespecial 18, 3) := by decide +kernel
theorem dX9_init_45 : decode cX9_init 45 = .ok (.putfield 26, 3) := by decide +kernel
theorem dX9_init_48 : decode cX9_init 48 = .ok (.aload_n 0, 1) := by decide +kernel
theorem dX9_init_49 : decode cX9_init 49 = .ok (.new 16, 3) := by decide +kernel
theorem dX9_init_52 : decode cX9_init 52 = .ok (.dup, 1) := by decide +kernel
theorem dX9_init_53 : decode cX9_init 53 = .ok (.invokespecial 18, 3) := by decide +kernel
theorem dX9_init_56 : decode cX9_init 56 = .ok (.putfield 29, 3) := by decide +kernel
theorem dX9_init_59 : decode cX9_init 59 = .ok (.aload_n 0, 1) := by decide +kernel
theorem dX9_init_60 : decode cX9_init 60 = .ok (.new 32, 3) := by decide +kernel
theorem dX9_init_63 : decode cX9_init 63 = .ok (.dup, 1) := by decide +kernel
theorem dX9_init_64 : decode cX9_init 64 = .ok (.invokespecial 34, 3) := by decide +kernel
theorem dX9_init_67 : decode cX9_init 67 = .ok (.putfield 35, 3) := by decide +kernel
theorem dX9_init_70 : decode cX9_init 70 = .ok (.aload_n 0, 1) := by decide +kernel
theorem dX9_init_71 : decode cX9_init 71 = .ok (.new 39, 3) := by decide +kernel
theorem dX9_init_74 : decode cX9_init 74 = .ok (.dup, 1) := by decide +kernel
theorem dX9_init_75 : decode cX9_init 75 = .ok (.invokespecial 41, 3) := by decide +kernel
theorem dX9_init_78 : decode cX9_init 78 = .ok (.putfield 42, 3) := by decide +kernel
theorem dX9_init_81 : decode cX9_init 81 = .ok (.aload_n 0, 1) := by decide +kernel
theorem dX9_init_82 : decode cX9_init 82 = .ok (.new 46, 3) := by decide +kernel
theorem dX9_init_85 : decode cX9_init 85 = .ok (.dup, 1) := by decide +kernel
theorem dX9_init_86 : decode cX9_init 86 = .ok (.invokespecial 48, 3) := by decide +kernel
theorem dX9_init_89 : decode cX9_init 89 = .ok (.putfield 49, 3) := by decide +kernel
theorem dX9_init_92 : decode cX9_init 92 = .ok (.aload_n 0, 1) := by decide +kernel
theorem dX9_init_93 : decode cX9_init 93 = .ok (.new 53, 3) := by decide +kernel
theorem dX9_init_96 : decode cX9_init 96 = .ok (.dup, 1) := by decide +kernel
theorem dX9_init_97 : decode cX9_init 97 = .ok (.invokespecial 55, 3) := by decide +kernel
theorem dX9_init_100 : decode cX9_init 100 = .ok (.putfield 56, 3) := by decide +kernel
theorem dX9_init_103 : decode cX9_init 103 = .ok (.aload_n 0, 1) := by decide +kernel
theorem dX9_init_104 : decode cX9_init 104 = .ok (.new 60, 3) := by decide +kernel
theorem dX9_init_107 : decode cX9_init 107 = .ok (.dup, 1) := by decide +kernel
theorem dX9_init_108 : decode cX9_init 108 = .ok (.invokespecial 62, 3) := by decide +kernel
theorem dX9_init_111 : decode cX9_init 111 = .ok (.putfield 63, 3) := by decide +kernel
theorem dX9_init_114 : decode cX9_init 114 = .ok (.aload_n 0, 1) := by decide +kernel
theorem dX9_init_115 : decode cX9_init 115 = .ok (.new 67, 3) := by decide +kernel
theorem dX9_init_118 : decode cX9_init 118 = .ok (.dup, 1) := by decide +kernel
theorem dX9_init_119 : decode cX9_init 119 = .ok (.invokespecial 69, 3) := by decide +kernel
theorem dX9_init_122 : decode cX9_init 122 = .ok (.putfield 70, 3) := by decide +kernel
theorem dX9_init_125 : decode cX9_init 125 = .ok (.aload_n 0, 1) := by decide +kernel
theorem dX9_init_126 : decode cX9_init 126 = .ok (.iconst 0, 1) := by decide +kernel
theorem dX9_init_127 : decode cX9_init 127 = .ok (.putfield 74, 3) := by decide +kernel
theorem dX9_init_130 : decode cX9_init 130 = .ok (.return_, 1) := by decide +kernel
theorem dX9_feed_0 : decode cX9_feed 0 = .ok (.aload_n 0, 1) := by decide +kernel
theorem dX9_feed_1 : decode cX9_feed 1 = .ok (.getfield 10, 3) := by decide +kernel
theorem dX9_feed_4 : decode cX9_feed 4 = .ok (.invokevirtual 78, 3) := by decide +kernel
theorem dX9_feed_7 : decode cX9_feed 7 = .ok (.ifCond .ne 6, 3) := by decide +kernel
theorem dX9_feed_10 : decode cX9_feed 10 = .ok (.bipush (-2), 2) := by decide +kernel
theorem dX9_feed_12 : decode cX9_feed 12 = .ok (.ireturn, 1) := by decide +kernel
theorem dX9_feed_13 : decode cX9_feed 13 = .ok (.aload_n 0, 1) := by decide +kernel
theorem dX9_feed_14 : decode cX9_feed 14 = .ok (.getfield 10, 3) := by decide +kernel
theorem dX9_feed_17 : decode cX9_feed 17 = .ok (.iload_n 1, 1) := by decide +kernel
theorem dX9_feed_18 : decode cX9_feed 18 = .ok (.invokevirtual 82, 3) := by decide +kernel
theorem dX9_feed_21 : decode cX9_feed 21 = .ok (.aload_n 0, 1) := by decide +kernel
theorem dX9_feed_22 : decode cX9_feed 22 = .ok (.getfield 10, 3) := by decide +kernel
theorem dX9_feed_25 : decode cX9_feed 25 = .ok (.iload_n 2, 1) := by decide +kernel
theorem dX9_feed_26 : decode cX9_feed 26 = .ok (.invokevirtual 82, 3) := by decide +kernel
theorem dX9_feed_29 : decode cX9_feed 29 = .ok (.aload_n 0, 1) := by decide +kernel
theorem dX9_feed_30 : decode cX9_feed 30 = .ok (.getfield 10, 3) := by decide +kernel
theorem dX9_feed_33 : decode cX9_feed 33 = .ok (.iload_n 3, 1) := by decide +kernel
theorem dX9_feed_34 : decode cX9_feed 34 = .ok (.invokevirtual 82, 3) := by decide +kernel
theorem dX9_feed_37 : decode cX9_feed 37 = .ok (.aload_n 0, 1) := by decide +kernel
theorem dX9_feed_38 : decode cX9_feed 38 = .ok (.getfield 10, 3) := by decide +kernel
theorem dX9_feed_41 : decode cX9_feed 41 = .ok (.iload 4, 2) := by decide +kernel
theorem dX9_feed_43 : decode cX9_feed 43 = .ok (.invokevirtual 82, 3) := by decide +kernel
theorem dX9_feed_46 : decode cX9_feed 46 = .ok (.aload_n 0, 1) := by decide +kernel
theorem dX9_feed_47 : decode cX9_feed 47 = .ok (.getfield 10, 3) := by decide +kernel
theorem dX9_feed_50 : decode cX9_feed 50 = .ok (.iload 5, 2) := by decide +kernel
theorem dX9_feed_52 : decode cX9_feed 52 = .ok (.invokevirtual 82, 3) := by decide +kernel
theorem dX9_feed_55 : decode cX9_feed 55 = .ok (.aload_n 0, 1) := by decide +kernel
theorem dX9_feed_56 : decode cX9_feed 56 = .ok (.getfield 10, 3) := by decide +kernel
theorem dX9_feed_59 : decode cX9_feed 59 = .ok (.invokevirtual 86, 3) := by decide +kernel
theorem dX9_feed_62 : decode cX9_feed 62 = .ok (.ireturn, 1) := by decide +kernel
theorem dX9_load_0 : decode cX9_load 0 = .ok (.iload_n 1, 1) := by decide +kernel
theorem dX9_load_1 : decode cX9_load 1 = .ok (.ifCond .lt 14, 3) := by decide +kernel
theorem dX9_load_4 : decode cX9_load 4 = .ok (.iload_n 1, 1) := by decide +kernel
theorem dX9_load_5 : decode cX9_load 5 = .ok (.aload_n 0, 1) := by decide +kernel
theorem dX9_load_6 : decode cX9_load 6 = .ok (.getfield 10, 3) := by decide +kernel
theorem dX9_load_9 : decode cX9_load 9 = .ok (.invokevirtual 86, 3) := by decide +kernel
theorem dX9_load_12 : decode cX9_load 12 = .ok (.if_icmp .le 13, 3) := by decide +kernel
theorem dX9_load_15 : decode cX9_load 15 = .ok (.new 90, 3) := by decide +kernel
theorem dX9_load_18 : decode cX9_load 18 = .ok (.dup, 1) := by decide +kernel
theorem dX9_load_19 : decode cX9_load 19 = .ok (.ldc 92, 2) := by decide +kernel
theorem dX9_load_21 : decode cX9_load 21 = .ok (.invokespecial 94, 3) := by decide +kernel
theorem dX9_load_24 : decode cX9_load 24 = .ok (.athrow, 1) := by decide +kernel
theorem dX9_load_25 : decode cX9_load 25 = .ok (.aload_n 0, 1) := by decide +kernel
theorem dX9_load_26 : decode cX9_load 26 = .ok (.getfield 10, 3) := by decide +kernel
theorem dX9_load_29 : decode cX9_load 29 = .ok (.iload_n 1, 1) := by decide +kernel
theorem dX9_load_30 : decode cX9_load 30 = .ok (.invokevirtual 97, 3) := by decide +kernel
theorem dX9_load_33 : decode cX9_load 33 = .ok (.ifCond .ne 6, 3) := by decide +kernel
theorem dX9_load_36 : decode cX9_load 36 = .ok (.bipush (-3), 2) := by decide +kernel
theorem dX9_load_38 : decode cX9_load 38 = .ok (.ireturn, 1) := by decide +kernel
theorem dX9_load_39 : decode cX9_load 39 = .ok (.aload_n 0, 1) := by decide +kernel
theorem dX9_load_40 : decode cX9_load 40 = .ok (.getfield 19, 3) := by decide +kernel
theorem dX9_load_43 : decode cX9_load 43 = .ok (.aload_n 0, 1) := by decide +kernel
theorem dX9_load_44 : decode cX9_load 44 = .ok (.getfield 10, 3) := by decide +kernel
theorem dX9_load_47 : decode cX9_load 47 = .ok (.invokevirtual 101, 3) := by decide +kernel
theorem dX9_load_50 : decode cX9_load 50 = .ok (.invokevirtual 105, 3) := by decide +kernel
theorem dX9_load_53 : decode cX9_load 53 = .ok (.aload_n 0, 1) := by decide +kernel
theorem dX9_load_54 : decode cX9_load 54 = .ok (.getfield 23, 3) := by decide +kernel
theorem dX9_load_57 : decode cX9_load 57 = .ok (.aload_n 0, 1) := by decide +kernel
theorem dX9_load_58 : decode cX9_load 58 = .ok (.getfield 10, 3) := by decide +kernel
theorem dX9_load_61 : decode cX9_load 61 = .ok (.invokevirtual 109, 3) := by decide +kernel
theorem dX9_load_64 : decode cX9_load 64 = .ok (.invokevirtual 105, 3) := by decide +kernel
theorem dX9_load_67 : decode cX9_load 67 = .ok (.aload_n 0, 1) := by decide +kernel
theorem dX9_load_68 : decode cX9_load 68 = .ok (.aload_n 0, 1) := by decide +kernel
theorem dX9_load_69 : decode cX9_load 69 = .ok (.getfield 10, 3) := by decide +kernel
theorem dX9_load_72 : decode cX9_load 72 = .ok (.invokevirtual 112, 3) := by decide +kernel
theorem dX9_load_75 : decode cX9_load 75 = .ok (.putfield 74, 3) := by decide +kernel
theorem dX9_load_78 : decode cX9_load 78 = .ok (.aload_n 0, 1) := by decide +kernel
theorem dX9_load_79 : decode cX9_load 79 = .ok (.getfield 63, 3) := by decide +kernel
theorem dX9_load_82 : decode cX9_load 82 = .ok (.invokevirtual 115, 3) := by decide +kernel
theorem dX9_load_85 : decode cX9_load 85 = .ok (.aload_n 0, 1) := by decide +kernel
theorem dX9_load_86 : decode cX9_load 86 = .ok (.getfield 19, 3) := by decide +kernel
theorem dX9_load_89 : decode cX9_load 89 = .ok (.invokevirtual 118, 3) := by decide +kernel
theorem dX9_load_92 : decode cX9_load 92 = .ok (.ireturn, 1) := by decide +kernel
theorem dX9_errorKind_0 : decode cX9_errorKind 0 = .ok (.aload_n 0, 1) := by decide +kernel
theorem dX9_errorKind_1 : decode cX9_errorKind 1 = .ok (.getfield 10, 3) := by decide +kernel
theorem dX9_errorKind_4 : decode cX9_errorKind 4 = .ok (.invokevirtual 121, 3) := by decide +kernel
theorem dX9_errorKind_7 : decode cX9_errorKind 7 = .ok (.ireturn, 1) := by decide +kernel
theorem dX9_errorPosition_0 : decode cX9_errorPosition 0 = .ok (.aload_n 0, 1) := by decide +kernel
theorem dX9_errorPosition_1 : decode cX9_errorPosition 1 = .ok (.getfield 10, 3) := by decide +kernel
theorem dX9_errorPosition_4 : decode cX9_errorPosition 4 = .ok (.invokevirtual 124, 3) := by decide +kernel
theorem dX9_errorPosition_7 : decode cX9_errorPosition 7 = .ok (.ireturn, 1) := by decide +kernel
theorem dX9_vertices_0 : decode cX9_vertices 0 = .ok (.aload_n 0, 1) := by decide +kernel
theorem dX9_vertices_1 : decode cX9_vertices 1 = .ok (.getfield 19, 3) := by decide +kernel
theorem dX9_vertices_4 : decode cX9_vertices 4 = .ok (.invokevirtual 127, 3) := by decide +kernel
theorem dX9_vertices_7 : decode cX9_vertices 7 = .ok (.ireturn, 1) := by decide +kernel
theorem dX9_mode_0 : decode cX9_mode 0 = .ok (.aload_n 0, 1) := by decide +kernel
theorem dX9_mode_1 : decode cX9_mode 1 = .ok (.getfield 74, 3) := by decide +kernel
theorem dX9_mode_4 : decode cX9_mode 4 = .ok (.ireturn, 1) := by decide +kernel
theorem dX9_edges_0 : decode cX9_edges 0 = .ok (.aload_n 0, 1) := by decide +kernel
theorem dX9_edges_1 : decode cX9_edges 1 = .ok (.iload_n 1, 1) := by decide +kernel
theorem dX9_edges_2 : decode cX9_edges 2 = .ok (.invokevirtual 130, 3) := by decide +kernel
theorem dX9_edges_5 : decode cX9_edges 5 = .ok (.invokevirtual 118, 3) := by decide +kernel
theorem dX9_edges_8 : decode cX9_edges 8 = .ok (.ireturn, 1) := by decide +kernel
theorem dX9_times_0 : decode cX9_times 0 = .ok (.aload_n 0, 1) := by decide +kernel
theorem dX9_times_1 : decode cX9_times 1 = .ok (.iload_n 1, 1) := by decide +kernel
theorem dX9_times_2 : decode cX9_times 2 = .ok (.invokevirtual 134, 3) := by decide +kernel
theorem dX9_times_5 : decode cX9_times 5 = .ok (.aload_n 0, 1) := by decide +kernel
theorem dX9_times_6 : decode cX9_times 6 = .ok (.iload_n 2, 1) := by decide +kernel
theorem dX9_times_7 : decode cX9_times 7 = .ok (.invokevirtual 134, 3) := by decide +kernel
theorem dX9_times_10 : decode cX9_times 10 = .ok (.aload_n 0, 1) := by decide +kernel
theorem dX9_times_11 : decode cX9_times 11 = .ok (.iload_n 3, 1) := by decide +kernel
theorem dX9_times_12 : decode cX9_times 12 = .ok (.invokevirtual 130, 3) := by decide +kernel
theorem dX9_times_15 : decode cX9_times 15 = .ok (.iload_n 1, 1) := by decide +kernel
theorem dX9_times_16 : decode cX9_times 16 = .ok (.iload_n 2, 1) := by decide +kernel
theorem dX9_times_17 : decode cX9_times 17 = .ok (.invokevirtual 137, 3) := by decide +kernel
theorem dX9_times_20 : decode cX9_times 20 = .ok (.ireturn, 1) := by decide +kernel
theorem dX9_degree_0 : decode cX9_degree 0 = .ok (.aload_n 0, 1) := by decide +kernel
theorem dX9_degree_1 : decode cX9_degree 1 = .ok (.iload_n 1, 1) := by decide +kernel
theorem dX9_degree_2 : decode cX9_degree 2 = .ok (.invokevirtual 134, 3) := by decide +kernel
theorem dX9_degree_5 : decode cX9_degree 5 = .ok (.aload_n 0, 1) := by decide +kernel
theorem dX9_degree_6 : decode cX9_degree 6 = .ok (.iload_n 2, 1) := by decide +kernel
theorem dX9_degree_7 : decode cX9_degree 7 = .ok (.invokevirtual 130, 3) := by decide +kernel
theorem dX9_degree_10 : decode cX9_degree 10 = .ok (.iload_n 1, 1) := by decide +kernel
theorem dX9_degree_11 : decode cX9_degree 11 = .ok (.invokevirtual 141, 3) := by decide +kernel
theorem dX9_degree_14 : decode cX9_degree 14 = .ok (.ireturn, 1) := by decide +kernel
theorem dX9_loops_0 : decode cX9_loops 0 = .ok (.aload_n 0, 1) := by decide +kernel
theorem dX9_loops_1 : decode cX9_loops 1 = .ok (.getfield 19, 3) := by decide +kernel
theorem dX9_loops_4 : decode cX9_loops 4 = .ok (.invokevirtual 145, 3) := by decide +kernel
theorem dX9_loops_7 : decode cX9_loops 7 = .ok (.ireturn, 1) := by decide +kernel
theorem dX9_defects_0 : decode cX9_defects 0 = .ok (.aload_n 0, 1) := by decide +kernel
theorem dX9_defects_1 : decode cX9_defects 1 = .ok (.getfield 19, 3) := by decide +kernel
theorem dX9_defects_4 : decode cX9_defects 4 = .ok (.invokevirtual 148, 3) := by decide +kernel
theorem dX9_defects_7 : decode cX9_defects 7 = .ok (.ireturn, 1) := by decide +kernel
theorem dX9_isSimple_0 : decode cX9_isSimple 0 = .ok (.aload_n 0, 1) := by decide +kernel
theorem dX9_isSimple_1 : decode cX9_isSimple 1 = .ok (.getfield 19, 3) := by decide +kernel
theorem dX9_isSimple_4 : decode cX9_isSimple 4 = .ok (.invokevirtual 148, 3) := by decide +kernel
theorem dX9_isSimple_7 : decode cX9_isSimple 7 = .ok (.ifCond .ne 7, 3) := by decide +kernel
theorem dX9_isSimple_10 : decode cX9_isSimple 10 = .ok (.iconst 1, 1) := by decide +kernel
theorem dX9_isSimple_11 : decode cX9_isSimple 11 = .ok (.goto 4, 3) := by decide +kernel
theorem dX9_isSimple_14 : decode cX9_isSimple 14 = .ok (.iconst 0, 1) := by decide +kernel
theorem dX9_isSimple_15 : decode cX9_isSimple 15 = .ok (.ireturn, 1) := by decide +kernel
theorem dX9_neighbours_0 : decode cX9_neighbours 0 = .ok (.aload_n 0, 1) := by decide +kernel
theorem dX9_neighbours_1 : decode cX9_neighbours 1 = .ok (.iload_n 1, 1) := by decide +kernel
theorem dX9_neighbours_2 : decode cX9_neighbours 2 = .ok (.invokevirtual 134, 3) := by decide +kernel
theorem dX9_neighbours_5 : decode cX9_neighbours 5 = .ok (.aload_n 0, 1) := by decide +kernel
theorem dX9_neighbours_6 : decode cX9_neighbours 6 = .ok (.getfield 19, 3) := by decide +kernel
theorem dX9_neighbours_9 : decode cX9_neighbours 9 = .ok (.iload_n 1, 1) := by decide +kernel
theorem dX9_neighbours_10 : decode cX9_neighbours 10 = .ok (.invokevirtual 151, 3) := by decide +kernel
theorem dX9_neighbours_13 : decode cX9_neighbours 13 = .ok (.ireturn, 1) := by decide +kernel
theorem dX9_triangles_0 : decode cX9_triangles 0 = .ok (.aload_n 0, 1) := by decide +kernel
theorem dX9_triangles_1 : decode cX9_triangles 1 = .ok (.getfield 19, 3) := by decide +kernel
theorem dX9_triangles_4 : decode cX9_triangles 4 = .ok (.invokevirtual 154, 3) := by decide +kernel
theorem dX9_triangles_7 : decode cX9_triangles 7 = .ok (.ireturn, 1) := by decide +kernel
theorem dX9_components_0 : decode cX9_components 0 = .ok (.aload_n 0, 1) := by decide +kernel
theorem dX9_components_1 : decode cX9_components 1 = .ok (.getfield 35, 3) := by decide +kernel
theorem dX9_components_4 : decode cX9_components 4 = .ok (.aload_n 0, 1) := by decide +kernel
theorem dX9_components_5 : decode cX9_components 5 = .ok (.getfield 19, 3) := by decide +kernel
theorem dX9_components_8 : decode cX9_components 8 = .ok (.invokevirtual 157, 3) := by decide +kernel
theorem dX9_components_11 : decode cX9_components 11 = .ok (.aload_n 0, 1) := by decide +kernel
theorem dX9_components_12 : decode cX9_components 12 = .ok (.getfield 35, 3) := by decide +kernel
theorem dX9_components_15 : decode cX9_components 15 = .ok (.invokevirtual 160, 3) := by decide +kernel
theorem dX9_components_18 : decode cX9_components 18 = .ok (.ireturn, 1) := by decide +kernel
theorem dX9_component_0 : decode cX9_component 0 = .ok (.aload_n 0, 1) := by decide +kernel
theorem dX9_component_1 : decode cX9_component 1 = .ok (.iload_n 1, 1) := by decide +kernel
theorem dX9_component_2 : decode cX9_component 2 = .ok (.invokevirtual 134, 3) := by decide +kernel
theorem dX9_component_5 : decode cX9_component 5 = .ok (.aload_n 0, 1) := by decide +kernel
theorem dX9_component_6 : decode cX9_component 6 = .ok (.getfield 35, 3) := by decide +kernel
theorem dX9_component_9 : decode cX9_component 9 = .ok (.aload_n 0, 1) := by decide +kernel
theorem dX9_component_10 : decode cX9_component 10 = .ok (.getfield 19, 3) := by decide +kernel
theorem dX9_component_13 : decode cX9_component 13 = .ok (.invokevirtual 157, 3) := by decide +kernel
theorem dX9_component_16 : decode cX9_component 16 = .ok (.aload_n 0, 1) := by decide +kernel
theorem dX9_component_17 : decode cX9_component 17 = .ok (.getfield 35, 3) := by decide +kernel
theorem dX9_component_20 : decode cX9_component 20 = .ok (.iload_n 1, 1) := by decide +kernel
theorem dX9_component_21 : decode cX9_component 21 = .ok (.invokevirtual 163, 3) := by decide +kernel
theorem dX9_component_24 : decode cX9_component 24 = .ok (.ireturn, 1) := by decide +kernel
theorem dX9_isConnected_0 : decode cX9_isConnected 0 = .ok (.aload_n 0, 1) := by decide +kernel
theorem dX9_isConnected_1 : decode cX9_isConnected 1 = .ok (.aload_n 0, 1) := by decide +kernel
theorem dX9_isConnected_2 : decode cX9_isConnected 2 = .ok (.getfield 19, 3) := by decide +kernel
theorem dX9_isConnected_5 : decode cX9_isConnected 5 = .ok (.invokevirtual 166, 3) := by decide +kernel
theorem dX9_isConnected_8 : decode cX9_isConnected 8 = .ok (.iconst 1, 1) := by decide +kernel
theorem dX9_isConnected_9 : decode cX9_isConnected 9 = .ok (.if_icmp .gt 7, 3) := by decide +kernel
theorem dX9_isConnected_12 : decode cX9_isConnected 12 = .ok (.iconst 1, 1) := by decide +kernel
theorem dX9_isConnected_13 : decode cX9_isConnected 13 = .ok (.goto 4, 3) := by decide +kernel
theorem dX9_isConnected_16 : decode cX9_isConnected 16 = .ok (.iconst 0, 1) := by decide +kernel
theorem dX9_isConnected_17 : decode cX9_isConnected 17 = .ok (.ireturn, 1) := by decide +kernel
theorem dX9_isBridge_0 : decode cX9_isBridge 0 = .ok (.aload_n 0, 1) := by decide +kernel
theorem dX9_isBridge_1 : decode cX9_isBridge 1 = .ok (.iload_n 1, 1) := by decide +kernel
theorem dX9_isBridge_2 : decode cX9_isBridge 2 = .ok (.invokevirtual 134, 3) := by decide +kernel
theorem dX9_isBridge_5 : decode cX9_isBridge 5 = .ok (.aload_n 0, 1) := by decide +kernel
theorem dX9_isBridge_6 : decode cX9_isBridge 6 = .ok (.iload_n 2, 1) := by decide +kernel
theorem dX9_isBridge_7 : decode cX9_isBridge 7 = .ok (.invokevirtual 134, 3) := by decide +kernel
theorem dX9_isBridge_10 : decode cX9_isBridge 10 = .ok (.aload_n 0, 1) := by decide +kernel
theorem dX9_isBridge_11 : decode cX9_isBridge 11 = .ok (.iload_n 1, 1) := by decide +kernel
theorem dX9_isBridge_12 : decode cX9_isBridge 12 = .ok (.iload_n 2, 1) := by decide +kernel
theorem dX9_isBridge_13 : decode cX9_isBridge 13 = .ok (.invokevirtual 170, 3) := by decide +kernel
theorem dX9_isBridge_16 : decode cX9_isBridge 16 = .ok (.aload_n 0, 1) := by decide +kernel
theorem dX9_isBridge_17 : decode cX9_isBridge 17 = .ok (.iload_n 1, 1) := by decide +kernel
theorem dX9_isBridge_18 : decode cX9_isBridge 18 = .ok (.iload_n 2, 1) := by decide +kernel
theorem dX9_isBridge_19 : decode cX9_isBridge 19 = .ok (.invokevirtual 174, 3) := by decide +kernel
theorem dX9_isBridge_22 : decode cX9_isBridge 22 = .ok (.ireturn, 1) := by decide +kernel
theorem dX9_bridges_0 : decode cX9_bridges 0 = .ok (.iconst 0, 1) := by decide +kernel
theorem dX9_bridges_1 : decode cX9_bridges 1 = .ok (.istore_n 1, 1) := by decide +kernel
theorem dX9_bridges_2 : decode cX9_bridges 2 = .ok (.iconst 0, 1) := by decide +kernel
theorem dX9_bridges_3 : decode cX9_bridges 3 = .ok (.istore_n 2, 1) := by decide +kernel
theorem dX9_bridges_4 : decode cX9_bridges 4 = .ok (.iload_n 2, 1) := by decide +kernel
theorem dX9_bridges_5 : decode cX9_bridges 5 = .ok (.aload_n 0, 1) := by decide +kernel
theorem dX9_bridges_6 : decode cX9_bridges 6 = .ok (.getfield 19, 3) := by decide +kernel
theorem dX9_bridges_9 : decode cX9_bridges 9 = .ok (.invokevirtual 127, 3) := by decide +kernel
theorem dX9_bridges_12 : decode cX9_bridges 12 = .ok (.if_icmp .ge 55, 3) := by decide +kernel
theorem dX9_bridges_15 : decode cX9_bridges 15 = .ok (.iload_n 2, 1) := by decide +kernel
theorem dX9_bridges_16 : decode cX9_bridges 16 = .ok (.iconst 1, 1) := by decide +kernel
theorem dX9_bridges_17 : decode cX9_bridges 17 = .ok (.iadd, 1) := by decide +kernel
theorem dX9_bridges_18 : decode cX9_bridges 18 = .ok (.istore_n 3, 1) := by decide +kernel
theorem dX9_bridges_19 : decode cX9_bridges 19 = .ok (.iload_n 3, 1) := by decide +kernel
theorem dX9_bridges_20 : decode cX9_bridges 20 = .ok (.aload_n 0, 1) := by decide +kernel
theorem dX9_bridges_21 : decode cX9_bridges 21 = .ok (.getfield 19, 3) := by decide +kernel
theorem dX9_bridges_24 : decode cX9_bridges 24 = .ok (.invokevirtual 127, 3) := by decide +kernel
theorem dX9_bridges_27 : decode cX9_bridges 27 = .ok (.if_icmp .ge 34, 3) := by decide +kernel
theorem dX9_bridges_30 : decode cX9_bridges 30 = .ok (.aload_n 0, 1) := by decide +kernel
theorem dX9_bridges_31 : decode cX9_bridges 31 = .ok (.getfield 19, 3) := by decide +kernel
theorem dX9_bridges_34 : decode cX9_bridges 34 = .ok (.iload_n 2, 1) := by decide +kernel
theorem dX9_bridges_35 : decode cX9_bridges 35 = .ok (.iload_n 3, 1) := by decide +kernel
theorem dX9_bridges_36 : decode cX9_bridges 36 = .ok (.invokevirtual 137, 3) := by decide +kernel
theorem dX9_bridges_39 : decode cX9_bridges 39 = .ok (.iconst 1, 1) := by decide +kernel
theorem dX9_bridges_40 : decode cX9_bridges 40 = .ok (.if_icmp .ne 15, 3) := by decide +kernel
theorem dX9_bridges_43 : decode cX9_bridges 43 = .ok (.aload_n 0, 1) := by decide +kernel
theorem dX9_bridges_44 : decode cX9_bridges 44 = .ok (.iload_n 2, 1) := by decide +kernel
theorem dX9_bridges_45 : decode cX9_bridges 45 = .ok (.iload_n 3, 1) := by decide +kernel
theorem dX9_bridges_46 : decode cX9_bridges 46 = .ok (.invokevirtual 174, 3) := by decide +kernel
theorem dX9_bridges_49 : decode cX9_bridges 49 = .ok (.ifCond .eq 6, 3) := by decide +kernel
theorem dX9_bridges_52 : decode cX9_bridges 52 = .ok (.iinc 1 1, 3) := by decide +kernel
theorem dX9_bridges_55 : decode cX9_bridges 55 = .ok (.iinc 3 1, 3) := by decide +kernel
theorem dX9_bridges_58 : decode cX9_bridges 58 = .ok (.goto (-39), 3) := by decide +kernel
theorem dX9_bridges_61 : decode cX9_bridges 61 = .ok (.iinc 2 1, 3) := by decide +kernel
theorem dX9_bridges_64 : decode cX9_bridges 64 = .ok (.goto (-60), 3) := by decide +kernel
theorem dX9_bridges_67 : decode cX9_bridges 67 = .ok (.iload_n 1, 1) := by decide +kernel
theorem dX9_bridges_68 : decode cX9_bridges 68 = .ok (.ireturn, 1) := by decide +kernel
theorem dX9_way_0 : decode cX9_way 0 = .ok (.aload_n 0, 1) := by decide +kernel
theorem dX9_way_1 : decode cX9_way 1 = .ok (.iload_n 1, 1) := by decide +kernel
theorem dX9_way_2 : decode cX9_way 2 = .ok (.invokevirtual 134, 3) := by decide +kernel
theorem dX9_way_5 : decode cX9_way 5 = .ok (.aload_n 0, 1) := by decide +kernel
theorem dX9_way_6 : decode cX9_way 6 = .ok (.iload_n 2, 1) := by decide +kernel
theorem dX9_way_7 : decode cX9_way 7 = .ok (.invokevirtual 134, 3) := by decide +kernel
theorem dX9_way_10 : decode cX9_way 10 = .ok (.aload_n 0, 1) := by decide +kernel
theorem dX9_way_11 : decode cX9_way 11 = .ok (.getfield 35, 3) := by decide +kernel
theorem dX9_way_14 : decode cX9_way 14 = .ok (.aload_n 0, 1) := by decide +kernel
theorem dX9_way_15 : decode cX9_way 15 = .ok (.getfield 19, 3) := by decide +kernel
theorem dX9_way_18 : decode cX9_way 18 = .ok (.iload_n 1, 1) := by decide +kernel
theorem dX9_way_19 : decode cX9_way 19 = .ok (.iload_n 2, 1) := by decide +kernel
theorem dX9_way_20 : decode cX9_way 20 = .ok (.invokevirtual 178, 3) := by decide +kernel
theorem dX9_way_23 : decode cX9_way 23 = .ok (.ireturn, 1) := by decide +kernel
theorem dX9_sorted_0 : decode cX9_sorted 0 = .ok (.aload_n 0, 1) := by decide +kernel
theorem dX9_sorted_1 : decode cX9_sorted 1 = .ok (.iload_n 1, 1) := by decide +kernel
theorem dX9_sorted_2 : decode cX9_sorted 2 = .ok (.invokevirtual 134, 3) := by decide +kernel
theorem dX9_sorted_5 : decode cX9_sorted 5 = .ok (.aload_n 0, 1) := by decide +kernel
theorem dX9_sorted_6 : decode cX9_sorted 6 = .ok (.getfield 42, 3) := by decide +kernel
theorem dX9_sorted_9 : decode cX9_sorted 9 = .ok (.aload_n 0, 1) := by decide +kernel
theorem dX9_sorted_10 : decode cX9_sorted 10 = .ok (.getfield 19, 3) := by decide +kernel
theorem dX9_sorted_13 : decode cX9_sorted 13 = .ok (.invokevirtual 182, 3) := by decide +kernel
theorem dX9_sorted_16 : decode cX9_sorted 16 = .ok (.aload_n 0, 1) := by decide +kernel
theorem dX9_sorted_17 : decode cX9_sorted 17 = .ok (.getfield 42, 3) := by decide +kernel
theorem dX9_sorted_20 : decode cX9_sorted 20 = .ok (.iload_n 1, 1) := by decide +kernel
theorem dX9_sorted_21 : decode cX9_sorted 21 = .ok (.invokevirtual 185, 3) := by decide +kernel
theorem dX9_sorted_24 : decode cX9_sorted 24 = .ok (.ireturn, 1) := by decide +kernel
theorem dX9_slack_0 : decode cX9_slack 0 = .ok (.iload_n 1, 1) := by decide +kernel
theorem dX9_slack_1 : decode cX9_slack 1 = .ok (.iconst 1, 1) := by decide +kernel
theorem dX9_slack_2 : decode cX9_slack 2 = .ok (.if_icmp .lt 14, 3) := by decide +kernel
theorem dX9_slack_5 : decode cX9_slack 5 = .ok (.iload_n 1, 1) := by decide +kernel
theorem dX9_slack_6 : decode cX9_slack 6 = .ok (.aload_n 0, 1) := by decide +kernel
theorem dX9_slack_7 : decode cX9_slack 7 = .ok (.getfield 19, 3) := by decide +kernel
theorem dX9_slack_10 : decode cX9_slack 10 = .ok (.invokevirtual 127, 3) := by decide +kernel
theorem dX9_slack_13 : decode cX9_slack 13 = .ok (.if_icmp .le 13, 3) := by decide +kernel
theorem dX9_slack_16 : decode cX9_slack 16 = .ok (.new 188, 3) := by decide +kernel
theorem dX9_slack_19 : decode cX9_slack 19 = .ok (.dup, 1) := by decide +kernel
theorem dX9_slack_20 : decode cX9_slack 20 = .ok (.ldc 190, 2) := by decide +kernel
theorem dX9_slack_22 : decode cX9_slack 22 = .ok (.invokespecial 192, 3) := by decide +kernel
theorem dX9_slack_25 : decode cX9_slack 25 = .ok (.athrow, 1) := by decide +kernel
theorem dX9_slack_26 : decode cX9_slack 26 = .ok (.aload_n 0, 1) := by decide +kernel
theorem dX9_slack_27 : decode cX9_slack 27 = .ok (.getfield 42, 3) := by decide +kernel
theorem dX9_slack_30 : decode cX9_slack 30 = .ok (.aload_n 0, 1) := by decide +kernel
theorem dX9_slack_31 : decode cX9_slack 31 = .ok (.getfield 19, 3) := by decide +kernel
theorem dX9_slack_34 : decode cX9_slack 34 = .ok (.invokevirtual 182, 3) := by decide +kernel
theorem dX9_slack_37 : decode cX9_slack 37 = .ok (.aload_n 0, 1) := by decide +kernel
theorem dX9_slack_38 : decode cX9_slack 38 = .ok (.getfield 42, 3) := by decide +kernel
theorem dX9_slack_41 : decode cX9_slack 41 = .ok (.iload_n 1, 1) := by decide +kernel
theorem dX9_slack_42 : decode cX9_slack 42 = .ok (.invokevirtual 193, 3) := by decide +kernel
theorem dX9_slack_45 : decode cX9_slack 45 = .ok (.ireturn, 1) := by decide +kernel
theorem dX9_isPossible_0 : decode cX9_isPossible 0 = .ok (.aload_n 0, 1) := by decide +kernel
theorem dX9_isPossible_1 : decode cX9_isPossible 1 = .ok (.iload_n 1, 1) := by decide +kernel
theorem dX9_isPossible_2 : decode cX9_isPossible 2 = .ok (.invokevirtual 196, 3) := by decide +kernel
theorem dX9_isPossible_5 : decode cX9_isPossible 5 = .ok (.aload_n 0, 1) := by decide +kernel
theorem dX9_isPossible_6 : decode cX9_isPossible 6 = .ok (.getfield 42, 3) := by decide +kernel
theorem dX9_isPossible_9 : decode cX9_isPossible 9 = .ok (.aload_n 0, 1) := by decide +kernel
theorem dX9_isPossible_10 : decode cX9_isPossible 10 = .ok (.getfield 19, 3) := by decide +kernel
theorem dX9_isPossible_13 : decode cX9_isPossible 13 = .ok (.invokevirtual 182, 3) := by decide +kernel
theorem dX9_isPossible_16 : decode cX9_isPossible 16 = .ok (.aload_n 0, 1) := by decide +kernel
theorem dX9_isPossible_17 : decode cX9_isPossible 17 = .ok (.getfield 42, 3) := by decide +kernel
theorem dX9_isPossible_20 : decode cX9_isPossible 20 = .ok (.iload_n 1, 1) := by decide +kernel
theorem dX9_isPossible_21 : decode cX9_isPossible 21 = .ok (.invokevirtual 199, 3) := by decide +kernel
theorem dX9_isPossible_24 : decode cX9_isPossible 24 = .ok (.ireturn, 1) := by decide +kernel
theorem dX9_meanDegree_0 : decode cX9_meanDegree 0 = .ok (.aload_n 0, 1) := by decide +kernel
theorem dX9_meanDegree_1 : decode cX9_meanDegree 1 = .ok (.getfield 19, 3) := by decide +kernel
theorem dX9_meanDegree_4 : decode cX9_meanDegree 4 = .ok (.invokevirtual 127, 3) := by decide +kernel
theorem dX9_meanDegree_7 : decode cX9_meanDegree 7 = .ok (.istore_n 1, 1) := by decide +kernel
theorem dX9_meanDegree_8 : decode cX9_meanDegree 8 = .ok (.iload_n 1, 1) := by decide +kernel
theorem dX9_meanDegree_9 : decode cX9_meanDegree 9 = .ok (.ifCond .le 19, 3) := by decide +kernel
theorem dX9_meanDegree_12 : decode cX9_meanDegree 12 = .ok (.iconst 2, 1) := by decide +kernel
theorem dX9_meanDegree_13 : decode cX9_meanDegree 13 = .ok (.aload_n 0, 1) := by decide +kernel
theorem dX9_meanDegree_14 : decode cX9_meanDegree 14 = .ok (.getfield 19, 3) := by decide +kernel
theorem dX9_meanDegree_17 : decode cX9_meanDegree 17 = .ok (.invokevirtual 118, 3) := by decide +kernel
theorem dX9_meanDegree_20 : decode cX9_meanDegree 20 = .ok (.imul, 1) := by decide +kernel
theorem dX9_meanDegree_21 : decode cX9_meanDegree 21 = .ok (.i2d, 1) := by decide +kernel
theorem dX9_meanDegree_22 : decode cX9_meanDegree 22 = .ok (.iload_n 1, 1) := by decide +kernel
theorem dX9_meanDegree_23 : decode cX9_meanDegree 23 = .ok (.i2d, 1) := by decide +kernel
theorem dX9_meanDegree_24 : decode cX9_meanDegree 24 = .ok (.ddiv, 1) := by decide +kernel
theorem dX9_meanDegree_25 : decode cX9_meanDegree 25 = .ok (.goto 4, 3) := by decide +kernel
theorem dX9_meanDegree_28 : decode cX9_meanDegree 28 = .ok (.dconst 0, 1) := by decide +kernel
theorem dX9_meanDegree_29 : decode cX9_meanDegree 29 = .ok (.dreturn, 1) := by decide +kernel
theorem dX9_reason_0 : decode cX9_reason 0 = .ok (.aload_n 0, 1) := by decide +kernel
theorem dX9_reason_1 : decode cX9_reason 1 = .ok (.iload_n 1, 1) := by decide +kernel
theorem dX9_reason_2 : decode cX9_reason 2 = .ok (.iload_n 2, 1) := by decide +kernel
theorem dX9_reason_3 : decode cX9_reason 3 = .ok (.iload_n 3, 1) := by decide +kernel
theorem dX9_reason_4 : decode cX9_reason 4 = .ok (.iload 4, 2) := by decide +kernel
theorem dX9_reason_6 : decode cX9_reason 6 = .ok (.invokevirtual 202, 3) := by decide +kernel
theorem dX9_reason_9 : decode cX9_reason 9 = .ok (.aload_n 0, 1) := by decide +kernel
theorem dX9_reason_10 : decode cX9_reason 10 = .ok (.getfield 19, 3) := by decide +kernel
theorem dX9_reason_13 : decode cX9_reason 13 = .ok (.aload_n 0, 1) := by decide +kernel
theorem dX9_reason_14 : decode cX9_reason 14 = .ok (.getfield 74, 3) := by decide +kernel
theorem dX9_reason_17 : decode cX9_reason 17 = .ok (.iload_n 1, 1) := by decide +kernel
theorem dX9_reason_18 : decode cX9_reason 18 = .ok (.iload_n 2, 1) := by decide +kernel
theorem dX9_reason_19 : decode cX9_reason 19 = .ok (.iload_n 3, 1) := by decide +kernel
theorem dX9_reason_20 : decode cX9_reason 20 = .ok (.iload 4, 2) := by decide +kernel
theorem dX9_reason_22 : decode cX9_reason 22 = .ok (.invokevirtual 206, 3) := by decide +kernel
theorem dX9_reason_25 : decode cX9_reason 25 = .ok (.ireturn, 1) := by decide +kernel
theorem dX9_switches_0 : decode cX9_switches 0 = .ok (.aload_n 0, 1) := by decide +kernel
theorem dX9_switches_1 : decode cX9_switches 1 = .ok (.getfield 49, 3) := by decide +kernel
theorem dX9_switches_4 : decode cX9_switches 4 = .ok (.aload_n 0, 1) := by decide +kernel
theorem dX9_switches_5 : decode cX9_switches 5 = .ok (.getfield 19, 3) := by decide +kernel
theorem dX9_switches_8 : decode cX9_switches 8 = .ok (.aload_n 0, 1) := by decide +kernel
theorem dX9_switches_9 : decode cX9_switches 9 = .ok (.getfield 74, 3) := by decide +kernel
theorem dX9_switches_12 : decode cX9_switches 12 = .ok (.invokevirtual 210, 3) := by decide +kernel
theorem dX9_switches_15 : decode cX9_switches 15 = .ok (.aload_n 0, 1) := by decide +kernel
theorem dX9_switches_16 : decode cX9_switches 16 = .ok (.getfield 49, 3) := by decide +kernel
theorem dX9_switches_19 : decode cX9_switches 19 = .ok (.invokevirtual 214, 3) := by decide +kernel
theorem dX9_switches_22 : decode cX9_switches 22 = .ok (.ireturn, 1) := by decide +kernel
theorem dX9_switchAt_0 : decode cX9_switchAt 0 = .ok (.aload_n 0, 1) := by decide +kernel
theorem dX9_switchAt_1 : decode cX9_switchAt 1 = .ok (.getfield 49, 3) := by decide +kernel
theorem dX9_switchAt_4 : decode cX9_switchAt 4 = .ok (.aload_n 0, 1) := by decide +kernel
theorem dX9_switchAt_5 : decode cX9_switchAt 5 = .ok (.getfield 19, 3) := by decide +kernel
theorem dX9_switchAt_8 : decode cX9_switchAt 8 = .ok (.aload_n 0, 1) := by decide +kernel
theorem dX9_switchAt_9 : decode cX9_switchAt 9 = .ok (.getfield 74, 3) := by decide +kernel
theorem dX9_switchAt_12 : decode cX9_switchAt 12 = .ok (.invokevirtual 210, 3) := by decide +kernel
theorem dX9_switchAt_15 : decode cX9_switchAt 15 = .ok (.iload_n 1, 1) := by decide +kernel
theorem dX9_switchAt_16 : decode cX9_switchAt 16 = .ok (.ifCond .lt 14, 3) := by decide +kernel
theorem dX9_switchAt_19 : decode cX9_switchAt 19 = .ok (.iload_n 1, 1) := by decide +kernel
theorem dX9_switchAt_20 : decode cX9_switchAt 20 = .ok (.aload_n 0, 1) := by decide +kernel
theorem dX9_switchAt_21 : decode cX9_switchAt 21 = .ok (.getfield 49, 3) := by decide +kernel
theorem dX9_switchAt_24 : decode cX9_switchAt 24 = .ok (.invokevirtual 214, 3) := by decide +kernel
theorem dX9_switchAt_27 : decode cX9_switchAt 27 = .ok (.if_icmp .lt 13, 3) := by decide +kernel
theorem dX9_switchAt_30 : decode cX9_switchAt 30 = .ok (.new 188, 3) := by decide +kernel
theorem dX9_switchAt_33 : decode cX9_switchAt 33 = .ok (.dup, 1) := by decide +kernel
theorem dX9_switchAt_34 : decode cX9_switchAt 34 = .ok (.ldc 217, 2) := by decide +kernel
theorem dX9_switchAt_36 : decode cX9_switchAt 36 = .ok (.invokespecial 192, 3) := by decide +kernel
theorem dX9_switchAt_39 : decode cX9_switchAt 39 = .ok (.athrow, 1) := by decide +kernel
theorem dX9_switchAt_40 : decode cX9_switchAt 40 = .ok (.aload_n 0, 1) := by decide +kernel
theorem dX9_switchAt_41 : decode cX9_switchAt 41 = .ok (.iload_n 2, 1) := by decide +kernel
theorem dX9_switchAt_42 : decode cX9_switchAt 42 = .ok (.invokevirtual 219, 3) := by decide +kernel
theorem dX9_switchAt_45 : decode cX9_switchAt 45 = .ok (.aload_n 0, 1) := by decide +kernel
theorem dX9_switchAt_46 : decode cX9_switchAt 46 = .ok (.getfield 49, 3) := by decide +kernel
theorem dX9_switchAt_49 : decode cX9_switchAt 49 = .ok (.iload_n 1, 1) := by decide +kernel
theorem dX9_switchAt_50 : decode cX9_switchAt 50 = .ok (.invokevirtual 222, 3) := by decide +kernel
theorem dX9_switchAt_53 : decode cX9_switchAt 53 = .ok (.iload_n 2, 1) := by decide +kernel
theorem dX9_switchAt_54 : decode cX9_switchAt 54 = .ok (.invokestatic 225, 3) := by decide +kernel
theorem dX9_switchAt_57 : decode cX9_switchAt 57 = .ok (.ireturn, 1) := by decide +kernel
theorem dX9_componentsBehind_0 : decode cX9_componentsBehind 0 = .ok (.aload_n 0, 1) := by decide +kernel
theorem dX9_componentsBehind_1 : decode cX9_componentsBehind 1 = .ok (.iload_n 1, 1) := by decide +kernel
theorem dX9_componentsBehind_2 : decode cX9_componentsBehind 2 = .ok (.iload_n 2, 1) := by decide +kernel
theorem dX9_componentsBehind_3 : decode cX9_componentsBehind 3 = .ok (.iload_n 3, 1) := by decide +kernel
theorem dX9_componentsBehind_4 : decode cX9_componentsBehind 4 = .ok (.iload 4, 2) := by decide +kernel
theorem dX9_componentsBehind_6 : decode cX9_componentsBehind 6 = .ok (.invokevirtual 202, 3) := by decide +kernel
theorem dX9_componentsBehind_9 : decode cX9_componentsBehind 9 = .ok (.aload_n 0, 1) := by decide +kernel
theorem dX9_componentsBehind_10 : decode cX9_componentsBehind 10 = .ok (.iload_n 1, 1) := by decide +kernel
theorem dX9_componentsBehind_11 : decode cX9_componentsBehind 11 = .ok (.iload_n 2, 1) := by decide +kernel
theorem dX9_componentsBehind_12 : decode cX9_componentsBehind 12 = .ok (.iload_n 3, 1) := by decide +kernel
theorem dX9_componentsBehind_13 : decode cX9_componentsBehind 13 = .ok (.iload 4, 2) := by decide +kernel
theorem dX9_componentsBehind_15 : decode cX9_componentsBehind 15 = .ok (.invokevirtual 230, 3) := by decide +kernel
theorem dX9_componentsBehind_18 : decode cX9_componentsBehind 18 = .ok (.aload_n 0, 1) := by decide +kernel
theorem dX9_componentsBehind_19 : decode cX9_componentsBehind 19 = .ok (.getfield 26, 3) := by decide +kernel
theorem dX9_componentsBehind_22 : decode cX9_componentsBehind 22 = .ok (.aload_n 0, 1) := by decide +kernel
theorem dX9_componentsBehind_23 : decode cX9_componentsBehind 23 = .ok (.getfield 19, 3) := by decide +kernel
theorem dX9_componentsBehind_26 : decode cX9_componentsBehind 26 = .ok (.invokevirtual 105, 3) := by decide +kernel
theorem dX9_componentsBehind_29 : decode cX9_componentsBehind 29 = .ok (.aload_n 0, 1) := by decide +kernel
theorem dX9_componentsBehind_30 : decode cX9_componentsBehind 30 = .ok (.getfield 26, 3) := by decide +kernel
theorem dX9_componentsBehind_33 : decode cX9_componentsBehind 33 = .ok (.iload_n 1, 1) := by decide +kernel
theorem dX9_componentsBehind_34 : decode cX9_componentsBehind 34 = .ok (.iload_n 2, 1) := by decide +kernel
theorem dX9_componentsBehind_35 : decode cX9_componentsBehind 35 = .ok (.iload_n 3, 1) := by decide +kernel
theorem dX9_componentsBehind_36 : decode cX9_componentsBehind 36 = .ok (.iload 4, 2) := by decide +kernel
theorem dX9_componentsBehind_38 : decode cX9_componentsBehind 38 = .ok (.invokestatic 233, 3) := by decide +kernel
theorem dX9_componentsBehind_41 : decode cX9_componentsBehind 41 = .ok (.invokevirtual 237, 3) := by decide +kernel
theorem dX9_componentsBehind_44 : decode cX9_componentsBehind 44 = .ok (.aload_n 0, 1) := by decide +kernel
theorem dX9_componentsBehind_45 : decode cX9_componentsBehind 45 = .ok (.getfield 35, 3) := by decide +kernel
theorem dX9_componentsBehind_48 : decode cX9_componentsBehind 48 = .ok (.aload_n 0, 1) := by decide +kernel
theorem dX9_componentsBehind_49 : decode cX9_componentsBehind 49 = .ok (.getfield 26, 3) := by decide +kernel
theorem dX9_componentsBehind_52 : decode cX9_componentsBehind 52 = .ok (.invokevirtual 157, 3) := by decide +kernel
theorem dX9_componentsBehind_55 : decode cX9_componentsBehind 55 = .ok (.aload_n 0, 1) := by decide +kernel
theorem dX9_componentsBehind_56 : decode cX9_componentsBehind 56 = .ok (.getfield 35, 3) := by decide +kernel
theorem dX9_componentsBehind_59 : decode cX9_componentsBehind 59 = .ok (.invokevirtual 160, 3) := by decide +kernel
theorem dX9_componentsBehind_62 : decode cX9_componentsBehind 62 = .ok (.ireturn, 1) := by decide +kernel
theorem dX9_nearest_0 : decode cX9_nearest 0 = .ok (.aload_n 0, 1) := by decide +kernel
theorem dX9_nearest_1 : decode cX9_nearest 1 = .ok (.getfield 49, 3) := by decide +kernel
theorem dX9_nearest_4 : decode cX9_nearest 4 = .ok (.aload_n 0, 1) := by decide +kernel
theorem dX9_nearest_5 : decode cX9_nearest 5 = .ok (.getfield 19, 3) := by decide +kernel
theorem dX9_nearest_8 : decode cX9_nearest 8 = .ok (.aload_n 0, 1) := by decide +kernel
theorem dX9_nearest_9 : decode cX9_nearest 9 = .ok (.getfield 74, 3) := by decide +kernel
theorem dX9_nearest_12 : decode cX9_nearest 12 = .ok (.invokevirtual 210, 3) := by decide +kernel
theorem dX9_nearest_15 : decode cX9_nearest 15 = .ok (.aload_n 0, 1) := by decide +kernel
theorem dX9_nearest_16 : decode cX9_nearest 16 = .ok (.getfield 49, 3) := by decide +kernel
theorem dX9_nearest_19 : decode cX9_nearest 19 = .ok (.invokevirtual 214, 3) := by decide +kernel
theorem dX9_nearest_22 : decode cX9_nearest 22 = .ok (.ifCond .ne 13, 3) := by decide +kernel
theorem dX9_nearest_25 : decode cX9_nearest 25 = .ok (.new 240, 3) := by decide +kernel
theorem dX9_nearest_28 : decode cX9_nearest 28 = .ok (.dup, 1) := by decide +kernel
theorem dX9_nearest_29 : decode cX9_nearest 29 = .ok (.ldc 242, 2) := by decide +kernel
theorem dX9_nearest_31 : decode cX9_nearest 31 = .ok (.invokespecial 244, 3) := by decide +kernel
theorem dX9_nearest_34 : decode cX9_nearest 34 = .ok (.athrow, 1) := by decide +kernel
theorem dX9_nearest_35 : decode cX9_nearest 35 = .ok (.aload_n 0, 1) := by decide +kernel
theorem dX9_nearest_36 : decode cX9_nearest 36 = .ok (.getfield 26, 3) := by decide +kernel
theorem dX9_nearest_39 : decode cX9_nearest 39 = .ok (.aload_n 0, 1) := by decide +kernel
theorem dX9_nearest_40 : decode cX9_nearest 40 = .ok (.getfield 19, 3) := by decide +kernel
theorem dX9_nearest_43 : decode cX9_nearest 43 = .ok (.invokevirtual 105, 3) := by decide +kernel
theorem dX9_nearest_46 : decode cX9_nearest 46 = .ok (.iconst 0, 1) := by decide +kernel
theorem dX9_nearest_47 : decode cX9_nearest 47 = .ok (.istore_n 1, 1) := by decide +kernel
theorem dX9_nearest_48 : decode cX9_nearest 48 = .ok (.bipush 17, 2) := by decide +kernel
theorem dX9_nearest_50 : decode cX9_nearest 50 = .ok (.istore_n 2, 1) := by decide +kernel
theorem dX9_nearest_51 : decode cX9_nearest 51 = .ok (.iconst 0, 1) := by decide +kernel
theorem dX9_nearest_52 : decode cX9_nearest 52 = .ok (.istore_n 3, 1) := by decide +kernel
theorem dX9_nearest_53 : decode cX9_nearest 53 = .ok (.iload_n 3, 1) := by decide +kernel
theorem dX9_nearest_54 : decode cX9_nearest 54 = .ok (.aload_n 0, 1) := by decide +kernel
theorem dX9_nearest_55 : decode cX9_nearest 55 = .ok (.getfield 49, 3) := by decide +kernel
theorem dX9_nearest_58 : decode cX9_nearest 58 = .ok (.invokevirtual 214, 3) := by decide +kernel
theorem dX9_nearest_61 : decode cX9_nearest 61 = .ok (.if_icmp .ge 66, 3) := by decide +kernel
theorem dX9_nearest_64 : decode cX9_nearest 64 = .ok (.aload_n 0, 1) := by decide +kernel
theorem dX9_nearest_65 : decode cX9_nearest 65 = .ok (.getfield 26, 3) := by decide +kernel
theorem dX9_nearest_68 : decode cX9_nearest 68 = .ok (.aload_n 0, 1) := by decide +kernel
theorem dX9_nearest_69 : decode cX9_nearest 69 = .ok (.getfield 49, 3) := by decide +kernel
theorem dX9_nearest_72 : decode cX9_nearest 72 = .ok (.iload_n 3, 1) := by decide +kernel
theorem dX9_nearest_73 : decode cX9_nearest 73 = .ok (.invokevirtual 222, 3) := by decide +kernel
theorem dX9_nearest_76 : decode cX9_nearest 76 = .ok (.invokevirtual 237, 3) := by decide +kernel
theorem dX9_nearest_79 : decode cX9_nearest 79 = .ok (.aload_n 0, 1) := by decide +kernel
theorem dX9_nearest_80 : decode cX9_nearest 80 = .ok (.getfield 26, 3) := by decide +kernel
theorem dX9_nearest_83 : decode cX9_nearest 83 = .ok (.aload_n 0, 1) := by decide +kernel
theorem dX9_nearest_84 : decode cX9_nearest 84 = .ok (.getfield 23, 3) := by decide +kernel
theorem dX9_nearest_87 : decode cX9_nearest 87 = .ok (.invokevirtual 245, 3) := by decide +kernel
theorem dX9_nearest_90 : decode cX9_nearest 90 = .ok (.istore 4, 2) := by decide +kernel
theorem dX9_nearest_92 : decode cX9_nearest 92 = .ok (.aload_n 0, 1) := by decide +kernel
theorem dX9_nearest_93 : decode cX9_nearest 93 = .ok (.getfield 26, 3) := by decide +kernel
theorem dX9_nearest_96 : decode cX9_nearest 96 = .ok (.aload_n 0, 1) := by decide +kernel
theorem dX9_nearest_97 : decode cX9_nearest 97 = .ok (.getfield 49, 3) := by decide +kernel
theorem dX9_nearest_100 : decode cX9_nearest 100 = .ok (.iload_n 3, 1) := by decide +kernel
theorem dX9_nearest_101 : decode cX9_nearest 101 = .ok (.invokevirtual 222, 3) := by decide +kernel
theorem dX9_nearest_104 : decode cX9_nearest 104 = .ok (.invokestatic 248, 3) := by decide +kernel
theorem dX9_nearest_107 : decode cX9_nearest 107 = .ok (.invokevirtual 237, 3) := by decide +kernel
theorem dX9_nearest_110 : decode cX9_nearest 110 = .ok (.iload 4, 2) := by decide +kernel
theorem dX9_nearest_112 : decode cX9_nearest 112 = .ok (.iload_n 2, 1) := by decide +kernel
theorem dX9_nearest_113 : decode cX9_nearest 113 = .ok (.if_icmp .ge 8, 3) := by decide +kernel
theorem dX9_nearest_116 : decode cX9_nearest 116 = .ok (.iload 4, 2) := by decide +kernel
theorem dX9_nearest_118 : decode cX9_nearest 118 = .ok (.istore_n 2, 1) := by decide +kernel
theorem dX9_nearest_119 : decode cX9_nearest 119 = .ok (.iload_n 3, 1) := by decide +kernel
theorem dX9_nearest_120 : decode cX9_nearest 120 = .ok (.istore_n 1, 1) := by decide +kernel
theorem dX9_nearest_121 : decode cX9_nearest 121 = .ok (.iinc 3 1, 3) := by decide +kernel
theorem dX9_nearest_124 : decode cX9_nearest 124 = .ok (.goto (-71), 3) := by decide +kernel
theorem dX9_nearest_127 : decode cX9_nearest 127 = .ok (.iload_n 1, 1) := by decide +kernel
theorem dX9_nearest_128 : decode cX9_nearest 128 = .ok (.ireturn, 1) := by decide +kernel
theorem dX9_isAlike_0 : decode cX9_isAlike 0 = .ok (.aload_n 0, 1) := by decide +kernel
theorem dX9_isAlike_1 : decode cX9_isAlike 1 = .ok (.getfield 19, 3) := by decide +kernel
theorem dX9_isAlike_4 : decode cX9_isAlike 4 = .ok (.aload_n 0, 1) := by decide +kernel
theorem dX9_isAlike_5 : decode cX9_isAlike 5 = .ok (.getfield 23, 3) := by decide +kernel
theorem dX9_isAlike_8 : decode cX9_isAlike 8 = .ok (.invokevirtual 251, 3) := by decide +kernel
theorem dX9_isAlike_11 : decode cX9_isAlike 11 = .ok (.ireturn, 1) := by decide +kernel
theorem dX9_difference_0 : decode cX9_difference 0 = .ok (.aload_n 0, 1) := by decide +kernel
theorem dX9_difference_1 : decode cX9_difference 1 = .ok (.getfield 19, 3) := by decide +kernel
theorem dX9_difference_4 : decode cX9_difference 4 = .ok (.aload_n 0, 1) := by decide +kernel
theorem dX9_difference_5 : decode cX9_difference 5 = .ok (.getfield 23, 3) := by decide +kernel
theorem dX9_difference_8 : decode cX9_difference 8 = .ok (.invokevirtual 245, 3) := by decide +kernel
theorem dX9_difference_11 : decode cX9_difference 11 = .ok (.ireturn, 1) := by decide +kernel
theorem dX9_pathLength_0 : decode cX9_pathLength 0 = .ok (.aload_n 0, 1) := by decide +kernel
theorem dX9_pathLength_1 : decode cX9_pathLength 1 = .ok (.invokevirtual 255, 3) := by decide +kernel
theorem dX9_pathLength_4 : decode cX9_pathLength 4 = .ok (.aload_n 0, 1) := by decide +kernel
theorem dX9_pathLength_5 : decode cX9_pathLength 5 = .ok (.getfield 56, 3) := by decide +kernel
theorem dX9_pathLength_8 : decode cX9_pathLength 8 = .ok (.aload_n 0, 1) := by decide +kernel
theorem dX9_pathLength_9 : decode cX9_pathLength 9 = .ok (.getfield 19, 3) := by decide +kernel
theorem dX9_pathLength_12 : decode cX9_pathLength 12 = .ok (.aload_n 0, 1) := by decide +kernel
theorem dX9_pathLength_13 : decode cX9_pathLength 13 = .ok (.getfield 23, 3) := by decide +kernel
theorem dX9_pathLength_16 : decode cX9_pathLength 16 = .ok (.invokevirtual 258, 3) := by decide +kernel
theorem dX9_pathLength_19 : decode cX9_pathLength 19 = .ok (.aload_n 0, 1) := by decide +kernel
theorem dX9_pathLength_20 : decode cX9_pathLength 20 = .ok (.getfield 56, 3) := by decide +kernel
theorem dX9_pathLength_23 : decode cX9_pathLength 23 = .ok (.invokevirtual 261, 3) := by decide +kernel
theorem dX9_pathLength_26 : decode cX9_pathLength 26 = .ok (.ireturn, 1) := by decide +kernel
theorem dX9_path_0 : decode cX9_path 0 = .ok (.aload_n 0, 1) := by decide +kernel
theorem dX9_path_1 : decode cX9_path 1 = .ok (.invokevirtual 255, 3) := by decide +kernel
theorem dX9_path_4 : decode cX9_path 4 = .ok (.aload_n 0, 1) := by decide +kernel
theorem dX9_path_5 : decode cX9_path 5 = .ok (.getfield 56, 3) := by decide +kernel
theorem dX9_path_8 : decode cX9_path 8 = .ok (.aload_n 0, 1) := by decide +kernel
theorem dX9_path_9 : decode cX9_path 9 = .ok (.getfield 19, 3) := by decide +kernel
theorem dX9_path_12 : decode cX9_path 12 = .ok (.aload_n 0, 1) := by decide +kernel
theorem dX9_path_13 : decode cX9_path 13 = .ok (.getfield 23, 3) := by decide +kernel
theorem dX9_path_16 : decode cX9_path 16 = .ok (.invokevirtual 258, 3) := by decide +kernel
theorem dX9_path_19 : decode cX9_path 19 = .ok (.iload_n 1, 1) := by decide +kernel
theorem dX9_path_20 : decode cX9_path 20 = .ok (.ifCond .lt 14, 3) := by decide +kernel
theorem dX9_path_23 : decode cX9_path 23 = .ok (.iload_n 1, 1) := by decide +kernel
theorem dX9_path_24 : decode cX9_path 24 = .ok (.aload_n 0, 1) := by decide +kernel
theorem dX9_path_25 : decode cX9_path 25 = .ok (.getfield 56, 3) := by decide +kernel
theorem dX9_path_28 : decode cX9_path 28 = .ok (.invokevirtual 261, 3) := by decide +kernel
theorem dX9_path_31 : decode cX9_path 31 = .ok (.if_icmp .lt 14, 3) := by decide +kernel
theorem dX9_path_34 : decode cX9_path 34 = .ok (.new 188, 3) := by decide +kernel
theorem dX9_path_37 : decode cX9_path 37 = .ok (.dup, 1) := by decide +kernel
theorem dX9_path_38 : decode cX9_path 38 = .ok (.ldc_w 262, 3) := by decide +kernel
theorem dX9_path_41 : decode cX9_path 41 = .ok (.invokespecial 192, 3) := by decide +kernel
theorem dX9_path_44 : decode cX9_path 44 = .ok (.athrow, 1) := by decide +kernel
theorem dX9_path_45 : decode cX9_path 45 = .ok (.aload_n 0, 1) := by decide +kernel
theorem dX9_path_46 : decode cX9_path 46 = .ok (.iload_n 2, 1) := by decide +kernel
theorem dX9_path_47 : decode cX9_path 47 = .ok (.invokevirtual 219, 3) := by decide +kernel
theorem dX9_path_50 : decode cX9_path 50 = .ok (.aload_n 0, 1) := by decide +kernel
theorem dX9_path_51 : decode cX9_path 51 = .ok (.getfield 56, 3) := by decide +kernel
theorem dX9_path_54 : decode cX9_path 54 = .ok (.iload_n 1, 1) := by decide +kernel
theorem dX9_path_55 : decode cX9_path 55 = .ok (.invokevirtual 264, 3) := by decide +kernel
theorem dX9_path_58 : decode cX9_path 58 = .ok (.iload_n 2, 1) := by decide +kernel
theorem dX9_path_59 : decode cX9_path 59 = .ok (.invokestatic 225, 3) := by decide +kernel
theorem dX9_path_62 : decode cX9_path 62 = .ok (.ireturn, 1) := by decide +kernel
theorem dX9_distance_0 : decode cX9_distance 0 = .ok (.aload_n 0, 1) := by decide +kernel
theorem dX9_distance_1 : decode cX9_distance 1 = .ok (.invokevirtual 255, 3) := by decide +kernel
theorem dX9_distance_4 : decode cX9_distance 4 = .ok (.aload_n 0, 1) := by decide +kernel
theorem dX9_distance_5 : decode cX9_distance 5 = .ok (.getfield 19, 3) := by decide +kernel
theorem dX9_distance_8 : decode cX9_distance 8 = .ok (.aload_n 0, 1) := by decide +kernel
theorem dX9_distance_9 : decode cX9_distance 9 = .ok (.getfield 23, 3) := by decide +kernel
theorem dX9_distance_12 : decode cX9_distance 12 = .ok (.invokevirtual 245, 3) := by decide +kernel
theorem dX9_distance_15 : decode cX9_distance 15 = .ok (.istore_n 1, 1) := by decide +kernel
theorem dX9_distance_16 : decode cX9_distance 16 = .ok (.iload_n 1, 1) := by decide +kernel
theorem dX9_distance_17 : decode cX9_distance 17 = .ok (.ifCond .ne 5, 3) := by decide +kernel
theorem dX9_distance_20 : decode cX9_distance 20 = .ok (.iconst 0, 1) := by decide +kernel
theorem dX9_distance_21 : decode cX9_distance 21 = .ok (.ireturn, 1) := by decide +kernel
theorem dX9_distance_22 : decode cX9_distance 22 = .ok (.iload_n 1, 1) := by decide +kernel
theorem dX9_distance_23 : decode cX9_distance 23 = .ok (.iconst 2, 1) := by decide +kernel
theorem dX9_distance_24 : decode cX9_distance 24 = .ok (.if_icmp .ne 5, 3) := by decide +kernel
theorem dX9_distance_27 : decode cX9_distance 27 = .ok (.iconst 1, 1) := by decide +kernel
theorem dX9_distance_28 : decode cX9_distance 28 = .ok (.ireturn, 1) := by decide +kernel
