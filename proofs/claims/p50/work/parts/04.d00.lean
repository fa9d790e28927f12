theorem dX1_init_0 : decode cX1_init 0 = .ok (.aload_n 0, 1) := by decide +kernel
theorem dX1_init_1 : decode cX1_init 1 = .ok (.invokespecial 3, 3) := by decide +kernel
theorem dX1_init_4 : decode cX1_init 4 = .ok (.aload_n 0, 1) := by decide +kernel
theorem dX1_init_5 : decode cX1_init 5 = .ok (.bipush 64, 2) := by decide +kernel
theorem dX1_init_7 : decode cX1_init 7 = .ok (.newarray .int, 2) := by decide +kernel
theorem dX1_init_9 : decode cX1_init 9 = .ok (.putfield 9, 3) := by decide +kernel
theorem dX1_init_12 : decode cX1_init 12 = .ok (.aload_n 0, 1) := by decide +kernel
theorem dX1_init_13 : decode cX1_init 13 = .ok (.iconst 1, 1) := by decide +kernel
theorem dX1_init_14 : decode cX1_init 14 = .ok (.putfield 15, 3) := by decide +kernel
theorem dX1_init_17 : decode cX1_init 17 = .ok (.aload_n 0, 1) := by decide +kernel
theorem dX1_init_18 : decode cX1_init 18 = .ok (.iconst 0, 1) := by decide +kernel
theorem dX1_init_19 : decode cX1_init 19 = .ok (.putfield 19, 3) := by decide +kernel
theorem dX1_init_22 : decode cX1_init 22 = .ok (.return_, 1) := by decide +kernel
theorem dX1_clear_0 : decode cX1_clear 0 = .ok (.iconst 0, 1) := by decide +kernel
theorem dX1_clear_1 : decode cX1_clear 1 = .ok (.istore_n 2, 1) := by decide +kernel
theorem dX1_clear_2 : decode cX1_clear 2 = .ok (.iload_n 2, 1) := by decide +kernel
theorem dX1_clear_3 : decode cX1_clear 3 = .ok (.aload_n 0, 1) := by decide +kernel
theorem dX1_clear_4 : decode cX1_clear 4 = .ok (.getfield 9, 3) := by decide +kernel
theorem dX1_clear_7 : decode cX1_clear 7 = .ok (.arraylength, 1) := by decide +kernel
theorem dX1_clear_8 : decode cX1_clear 8 = .ok (.if_icmp .ge 16, 3) := by decide +kernel
theorem dX1_clear_11 : decode cX1_clear 11 = .ok (.aload_n 0, 1) := by decide +kernel
theorem dX1_clear_12 : decode cX1_clear 12 = .ok (.getfield 9, 3) := by decide +kernel
theorem dX1_clear_15 : decode cX1_clear 15 = .ok (.iload_n 2, 1) := by decide +kernel
theorem dX1_clear_16 : decode cX1_clear 16 = .ok (.iconst 0, 1) := by decide +kernel
theorem dX1_clear_17 : decode cX1_clear 17 = .ok (.iastore, 1) := by decide +kernel
theorem dX1_clear_18 : decode cX1_clear 18 = .ok (.iinc 2 1, 3) := by decide +kernel
theorem dX1_clear_21 : decode cX1_clear 21 = .ok (.goto (-19), 3) := by decide +kernel
theorem dX1_clear_24 : decode cX1_clear 24 = .ok (.aload_n 0, 1) := by decide +kernel
theorem dX1_clear_25 : decode cX1_clear 25 = .ok (.iload_n 1, 1) := by decide +kernel
theorem dX1_clear_26 : decode cX1_clear 26 = .ok (.putfield 15, 3) := by decide +kernel
theorem dX1_clear_29 : decode cX1_clear 29 = .ok (.aload_n 0, 1) := by decide +kernel
theorem dX1_clear_30 : decode cX1_clear 30 = .ok (.iconst 0, 1) := by decide +kernel
theorem dX1_clear_31 : decode cX1_clear 31 = .ok (.putfield 19, 3) := by decide +kernel
theorem dX1_clear_34 : decode cX1_clear 34 = .ok (.return_, 1) := by decide +kernel
theorem dX1_become_0 : decode cX1_become 0 = .ok (.iconst 0, 1) := by decide +kernel
theorem dX1_become_1 : decode cX1_become 1 = .ok (.istore_n 2, 1) := by decide +kernel
theorem dX1_become_2 : decode cX1_become 2 = .ok (.iload_n 2, 1) := by decide +kernel
theorem dX1_become_3 : decode cX1_become 3 = .ok (.aload_n 0, 1) := by decide +kernel
theorem dX1_become_4 : decode cX1_become 4 = .ok (.getfield 9, 3) := by decide +kernel
theorem dX1_become_7 : decode cX1_become 7 = .ok (.arraylength, 1) := by decide +kernel
theorem dX1_become_8 : decode cX1_become 8 = .ok (.if_icmp .ge 21, 3) := by decide +kernel
theorem dX1_become_11 : decode cX1_become 11 = .ok (.aload_n 0, 1) := by decide +kernel
theorem dX1_become_12 : decode cX1_become 12 = .ok (.getfield 9, 3) := by decide +kernel
theorem dX1_become_15 : decode cX1_become 15 = .ok (.iload_n 2, 1) := by decide +kernel
theorem dX1_become_16 : decode cX1_become 16 = .ok (.aload_n 1, 1) := by decide +kernel
theorem dX1_become_17 : decode cX1_become 17 = .ok (.getfield 9, 3) := by decide +kernel
theorem dX1_become_20 : decode cX1_become 20 = .ok (.iload_n 2, 1) := by decide +kernel
theorem dX1_become_21 : decode cX1_become 21 = .ok (.iaload, 1) := by decide +kernel
theorem dX1_become_22 : decode cX1_become 22 = .ok (.iastore, 1) := by decide +kernel
theorem dX1_become_23 : decode cX1_become 23 = .ok (.iinc 2 1, 3) := by decide +kernel
theorem dX1_become_26 : decode cX1_become 26 = .ok (.goto (-24), 3) := by decide +kernel
theorem dX1_become_29 : decode cX1_become 29 = .ok (.aload_n 0, 1) := by decide +kernel
theorem dX1_become_30 : decode cX1_become 30 = .ok (.aload_n 1, 1) := by decide +kernel
theorem dX1_become_31 : decode cX1_become 31 = .ok (.getfield 15, 3) := by decide +kernel
theorem dX1_become_34 : decode cX1_become 34 = .ok (.putfield 15, 3) := by decide +kernel
theorem dX1_become_37 : decode cX1_become 37 = .ok (.aload_n 0, 1) := by decide +kernel
theorem dX1_become_38 : decode cX1_become 38 = .ok (.aload_n 1, 1) := by decide +kernel
theorem dX1_become_39 : decode cX1_become 39 = .ok (.getfield 19, 3) := by decide +kernel
theorem dX1_become_42 : decode cX1_become 42 = .ok (.putfield 19, 3) := by decide +kernel
theorem dX1_become_45 : decode cX1_become 45 = .ok (.return_, 1) := by decide +kernel
theorem dX1_vertexCount_0 : decode cX1_vertexCount 0 = .ok (.aload_n 0, 1) := by decide +kernel
theorem dX1_vertexCount_1 : decode cX1_vertexCount 1 = .ok (.getfield 15, 3) := by decide +kernel
theorem dX1_vertexCount_4 : decode cX1_vertexCount 4 = .ok (.ireturn, 1) := by decide +kernel
theorem dX1_edgeCount_0 : decode cX1_edgeCount 0 = .ok (.aload_n 0, 1) := by decide +kernel
theorem dX1_edgeCount_1 : decode cX1_edgeCount 1 = .ok (.getfield 19, 3) := by decide +kernel
theorem dX1_edgeCount_4 : decode cX1_edgeCount 4 = .ok (.ireturn, 1) := by decide +kernel
theorem dX1_between_0 : decode cX1_between 0 = .ok (.aload_n 0, 1) := by decide +kernel
theorem dX1_between_1 : decode cX1_between 1 = .ok (.getfield 9, 3) := by decide +kernel
theorem dX1_between_4 : decode cX1_between 4 = .ok (.iload_n 1, 1) := by decide +kernel
theorem dX1_between_5 : decode cX1_between 5 = .ok (.bipush 8, 2) := by decide +kernel
theorem dX1_between_7 : decode cX1_between 7 = .ok (.imul, 1) := by decide +kernel
theorem dX1_between_8 : decode cX1_between 8 = .ok (.iload_n 2, 1) := by decide +kernel
theorem dX1_between_9 : decode cX1_between 9 = .ok (.iadd, 1) := by decide +kernel
theorem dX1_between_10 : decode cX1_between 10 = .ok (.iaload, 1) := by decide +kernel
theorem dX1_between_11 : decode cX1_between 11 = .ok (.ireturn, 1) := by decide +kernel
theorem dX1_put_0 : decode cX1_put 0 = .ok (.aload_n 0, 1) := by decide +kernel
theorem dX1_put_1 : decode cX1_put 1 = .ok (.getfield 9, 3) := by decide +kernel
theorem dX1_put_4 : decode cX1_put 4 = .ok (.iload_n 1, 1) := by decide +kernel
theorem dX1_put_5 : decode cX1_put 5 = .ok (.bipush 8, 2) := by decide +kernel
theorem dX1_put_7 : decode cX1_put 7 = .ok (.imul, 1) := by decide +kernel
theorem dX1_put_8 : decode cX1_put 8 = .ok (.iload_n 2, 1) := by decide +kernel
theorem dX1_put_9 : decode cX1_put 9 = .ok (.iadd, 1) := by decide +kernel
theorem dX1_put_10 : decode cX1_put 10 = .ok (.dup2, 1) := by decide +kernel
theorem dX1_put_11 : decode cX1_put 11 = .ok (.iaload, 1) := by decide +kernel
theorem dX1_put_12 : decode cX1_put 12 = .ok (.iload_n 3, 1) := by decide +kernel
theorem dX1_put_13 : decode cX1_put 13 = .ok (.iadd, 1) := by decide +kernel
theorem dX1_put_14 : decode cX1_put 14 = .ok (.iastore, 1) := by decide +kernel
theorem dX1_put_15 : decode cX1_put 15 = .ok (.iload_n 1, 1) := by decide +kernel
theorem dX1_put_16 : decode cX1_put 16 = .ok (.iload_n 2, 1) := by decide +kernel
theorem dX1_put_17 : decode cX1_put 17 = .ok (.if_icmp .eq 18, 3) := by decide +kernel
theorem dX1_put_20 : decode cX1_put 20 = .ok (.aload_n 0, 1) := by decide +kernel
theorem dX1_put_21 : decode cX1_put 21 = .ok (.getfield 9, 3) := by decide +kernel
theorem dX1_put_24 : decode cX1_put 24 = .ok (.iload_n 2, 1) := by decide +kernel
theorem dX1_put_25 : decode cX1_put 25 = .ok (.bipush 8, 2) := by decide +kernel
theorem dX1_put_27 : decode cX1_put 27 = .ok (.imul, 1) := by decide +kernel
theorem dX1_put_28 : decode cX1_put 28 = .ok (.iload_n 1, 1) := by decide +kernel
theorem dX1_put_29 : decode cX1_put 29 = .ok (.iadd, 1) := by decide +kernel
theorem dX1_put_30 : decode cX1_put 30 = .ok (.dup2, 1) := by decide +kernel
theorem dX1_put_31 : decode cX1_put 31 = .ok (.iaload, 1) := by decide +kernel
theorem dX1_put_32 : decode cX1_put 32 = .ok (.iload_n 3, 1) := by decide +kernel
theorem dX1_put_33 : decode cX1_put 33 = .ok (.iadd, 1) := by decide +kernel
theorem dX1_put_34 : decode cX1_put 34 = .ok (.iastore, 1) := by decide +kernel
theorem dX1_put_35 : decode cX1_put 35 = .ok (.aload_n 0, 1) := by decide +kernel
theorem dX1_put_36 : decode cX1_put 36 = .ok (.dup, 1) := by decide +kernel
theorem dX1_put_37 : decode cX1_put 37 = .ok (.getfield 19, 3) := by decide +kernel
theorem dX1_put_40 : decode cX1_put 40 = .ok (.iload_n 3, 1) := by decide +kernel
theorem dX1_put_41 : decode cX1_put 41 = .ok (.iadd, 1) := by decide +kernel
theorem dX1_put_42 : decode cX1_put 42 = .ok (.putfield 19, 3) := by decide +kernel
theorem dX1_put_45 : decode cX1_put 45 = .ok (.return_, 1) := by decide +kernel
theorem dX1_reasonAgainst_0 : decode cX1_reasonAgainst 0 = .ok (.aload_n 0, 1) := by decide +kernel
theorem dX1_reasonAgainst_1 : decode cX1_reasonAgainst 1 = .ok (.iload_n 2, 1) := by decide +kernel
theorem dX1_reasonAgainst_2 : decode cX1_reasonAgainst 2 = .ok (.iload_n 3, 1) := by decide +kernel
theorem dX1_reasonAgainst_3 : decode cX1_reasonAgainst 3 = .ok (.invokevirtual 32, 3) := by decide +kernel
theorem dX1_reasonAgainst_6 : decode cX1_reasonAgainst 6 = .ok (.ifCond .ne 5, 3) := by decide +kernel
theorem dX1_reasonAgainst_9 : decode cX1_reasonAgainst 9 = .ok (.iconst 1, 1) := by decide +kernel
theorem dX1_reasonAgainst_10 : decode cX1_reasonAgainst 10 = .ok (.ireturn, 1) := by decide +kernel
theorem dX1_reasonAgainst_11 : decode cX1_reasonAgainst 11 = .ok (.iload_n 2, 1) := by decide +kernel
theorem dX1_reasonAgainst_12 : decode cX1_reasonAgainst 12 = .ok (.iload 4, 2) := by decide +kernel
theorem dX1_reasonAgainst_14 : decode cX1_reasonAgainst 14 = .ok (.if_icmp .ne 9, 3) := by decide +kernel
theorem dX1_reasonAgainst_17 : decode cX1_reasonAgainst 17 = .ok (.iload_n 3, 1) := by decide +kernel
theorem dX1_reasonAgainst_18 : decode cX1_reasonAgainst 18 = .ok (.iload 5, 2) := by decide +kernel
theorem dX1_reasonAgainst_20 : decode cX1_reasonAgainst 20 = .ok (.if_icmp .eq 15, 3) := by decide +kernel
theorem dX1_reasonAgainst_23 : decode cX1_reasonAgainst 23 = .ok (.iload_n 2, 1) := by decide +kernel
theorem dX1_reasonAgainst_24 : decode cX1_reasonAgainst 24 = .ok (.iload 5, 2) := by decide +kernel
theorem dX1_reasonAgainst_26 : decode cX1_reasonAgainst 26 = .ok (.if_icmp .ne 13, 3) := by decide +kernel
theorem dX1_reasonAgainst_29 : decode cX1_reasonAgainst 29 = .ok (.iload_n 3, 1) := by decide +kernel
theorem dX1_reasonAgainst_30 : decode cX1_reasonAgainst 30 = .ok (.iload 4, 2) := by decide +kernel
theorem dX1_reasonAgainst_32 : decode cX1_reasonAgainst 32 = .ok (.if_icmp .ne 7, 3) := by decide +kernel
theorem dX1_reasonAgainst_35 : decode cX1_reasonAgainst 35 = .ok (.iconst 1, 1) := by decide +kernel
theorem dX1_reasonAgainst_36 : decode cX1_reasonAgainst 36 = .ok (.goto 4, 3) := by decide +kernel
theorem dX1_reasonAgainst_39 : decode cX1_reasonAgainst 39 = .ok (.iconst 0, 1) := by decide +kernel
theorem dX1_reasonAgainst_40 : decode cX1_reasonAgainst 40 = .ok (.istore 6, 2) := by decide +kernel
theorem dX1_reasonAgainst_42 : decode cX1_reasonAgainst 42 = .ok (.aload_n 0, 1) := by decide +kernel
theorem dX1_reasonAgainst_43 : decode cX1_reasonAgainst 43 = .ok (.iload 4, 2) := by decide +kernel
theorem dX1_reasonAgainst_45 : decode cX1_reasonAgainst 45 = .ok (.iload 5, 2) := by decide +kernel
theorem dX1_reasonAgainst_47 : decode cX1_reasonAgainst 47 = .ok (.invokevirtual 32, 3) := by decide +kernel
theorem dX1_reasonAgainst_50 : decode cX1_reasonAgainst 50 = .ok (.iload 6, 2) := by decide +kernel
theorem dX1_reasonAgainst_52 : decode cX1_reasonAgainst 52 = .ok (.ifCond .eq 7, 3) := by decide +kernel
theorem dX1_reasonAgainst_55 : decode cX1_reasonAgainst 55 = .ok (.iconst 2, 1) := by decide +kernel
theorem dX1_reasonAgainst_56 : decode cX1_reasonAgainst 56 = .ok (.goto 4, 3) := by decide +kernel
theorem dX1_reasonAgainst_59 : decode cX1_reasonAgainst 59 = .ok (.iconst 1, 1) := by decide +kernel
theorem dX1_reasonAgainst_60 : decode cX1_reasonAgainst 60 = .ok (.if_icmp .ge 5, 3) := by decide +kernel
theorem dX1_reasonAgainst_63 : decode cX1_reasonAgainst 63 = .ok (.iconst 2, 1) := by decide +kernel
theorem dX1_reasonAgainst_64 : decode cX1_reasonAgainst 64 = .ok (.ireturn, 1) := by decide +kernel
theorem dX1_reasonAgainst_65 : decode cX1_reasonAgainst 65 = .ok (.iload_n 2, 1) := by decide +kernel
theorem dX1_reasonAgainst_66 : decode cX1_reasonAgainst 66 = .ok (.iload 5, 2) := by decide +kernel
theorem dX1_reasonAgainst_68 : decode cX1_reasonAgainst 68 = .ok (.if_icmp .eq 9, 3) := by decide +kernel
theorem dX1_reasonAgainst_71 : decode cX1_reasonAgainst 71 = .ok (.iload_n 3, 1) := by decide +kernel
theorem dX1_reasonAgainst_72 : decode cX1_reasonAgainst 72 = .ok (.iload 4, 2) := by decide +kernel
theorem dX1_reasonAgainst_74 : decode cX1_reasonAgainst 74 = .ok (.if_icmp .ne 5, 3) := by decide +kernel
theorem dX1_reasonAgainst_77 : decode cX1_reasonAgainst 77 = .ok (.iconst 3, 1) := by decide +kernel
theorem dX1_reasonAgainst_78 : decode cX1_reasonAgainst 78 = .ok (.ireturn, 1) := by decide +kernel
theorem dX1_reasonAgainst_79 : decode cX1_reasonAgainst 79 = .ok (.iload_n 1, 1) := by decide +kernel
theorem dX1_reasonAgainst_80 : decode cX1_reasonAgainst 80 = .ok (.ifCond .eq 17, 3) := by decide +kernel
theorem dX1_reasonAgainst_83 : decode cX1_reasonAgainst 83 = .ok (.iload_n 2, 1) := by decide +kernel
theorem dX1_reasonAgainst_84 : decode cX1_reasonAgainst 84 = .ok (.iload 4, 2) := by decide +kernel
theorem dX1_reasonAgainst_86 : decode cX1_reasonAgainst 86 = .ok (.if_icmp .eq 9, 3) := by decide +kernel
theorem dX1_reasonAgainst_89 : decode cX1_reasonAgainst 89 = .ok (.iload_n 3, 1) := by decide +kernel
theorem dX1_reasonAgainst_90 : decode cX1_reasonAgainst 90 = .ok (.iload 5, 2) := by decide +kernel
theorem dX1_reasonAgainst_92 : decode cX1_reasonAgainst 92 = .ok (.if_icmp .ne 5, 3) := by decide +kernel
theorem dX1_reasonAgainst_95 : decode cX1_reasonAgainst 95 = .ok (.iconst 4, 1) := by decide +kernel
theorem dX1_reasonAgainst_96 : decode cX1_reasonAgainst 96 = .ok (.ireturn, 1) := by decide +kernel
theorem dX1_reasonAgainst_97 : decode cX1_reasonAgainst 97 = .ok (.aload_n 0, 1) := by decide +kernel
theorem dX1_reasonAgainst_98 : decode cX1_reasonAgainst 98 = .ok (.iload_n 2, 1) := by decide +kernel
theorem dX1_reasonAgainst_99 : decode cX1_reasonAgainst 99 = .ok (.iload 4, 2) := by decide +kernel
theorem dX1_reasonAgainst_101 : decode cX1_reasonAgainst 101 = .ok (.invokevirtual 32, 3) := by decide +kernel
theorem dX1_reasonAgainst_104 : decode cX1_reasonAgainst 104 = .ok (.ifCond .gt 13, 3) := by decide +kernel
theorem dX1_reasonAgainst_107 : decode cX1_reasonAgainst 107 = .ok (.aload_n 0, 1) := by decide +kernel
theorem dX1_reasonAgainst_108 : decode cX1_reasonAgainst 108 = .ok (.iload_n 3, 1) := by decide +kernel
theorem dX1_reasonAgainst_109 : decode cX1_reasonAgainst 109 = .ok (.iload 5, 2) := by decide +kernel
theorem dX1_reasonAgainst_111 : decode cX1_reasonAgainst 111 = .ok (.invokevirtual 32, 3) := by decide +kernel
theorem dX1_reasonAgainst_114 : decode cX1_reasonAgainst 114 = .ok (.ifCond .le 7, 3) := by decide +kernel
theorem dX1_reasonAgainst_117 : decode cX1_reasonAgainst 117 = .ok (.iconst 1, 1) := by decide +kernel
theorem dX1_reasonAgainst_118 : decode cX1_reasonAgainst 118 = .ok (.goto 4, 3) := by decide +kernel
theorem dX1_reasonAgainst_121 : decode cX1_reasonAgainst 121 = .ok (.iconst 0, 1) := by decide +kernel
theorem dX1_reasonAgainst_122 : decode cX1_reasonAgainst 122 = .ok (.istore 7, 2) := by decide +kernel
theorem dX1_reasonAgainst_124 : decode cX1_reasonAgainst 124 = .ok (.iload_n 2, 1) := by decide +kernel
theorem dX1_reasonAgainst_125 : decode cX1_reasonAgainst 125 = .ok (.iload_n 3, 1) := by decide +kernel
theorem dX1_reasonAgainst_126 : decode cX1_reasonAgainst 126 = .ok (.if_icmp .ne 14, 3) := by decide +kernel
theorem dX1_reasonAgainst_129 : decode cX1_reasonAgainst 129 = .ok (.iload 4, 2) := by decide +kernel
theorem dX1_reasonAgainst_131 : decode cX1_reasonAgainst 131 = .ok (.iload 5, 2) := by decide +kernel
theorem dX1_reasonAgainst_133 : decode cX1_reasonAgainst 133 = .ok (.if_icmp .ne 7, 3) := by decide +kernel
theorem dX1_reasonAgainst_136 : decode cX1_reasonAgainst 136 = .ok (.iconst 1, 1) := by decide +kernel
theorem dX1_reasonAgainst_137 : decode cX1_reasonAgainst 137 = .ok (.goto 4, 3) := by decide +kernel
theorem dX1_reasonAgainst_140 : decode cX1_reasonAgainst 140 = .ok (.iconst 0, 1) := by decide +kernel
theorem dX1_reasonAgainst_141 : decode cX1_reasonAgainst 141 = .ok (.istore 8, 2) := by decide +kernel
theorem dX1_reasonAgainst_143 : decode cX1_reasonAgainst 143 = .ok (.iload_n 1, 1) := by decide +kernel
theorem dX1_reasonAgainst_144 : decode cX1_reasonAgainst 144 = .ok (.iconst 2, 1) := by decide +kernel
theorem dX1_reasonAgainst_145 : decode cX1_reasonAgainst 145 = .ok (.if_icmp .ne 17, 3) := by decide +kernel
theorem dX1_reasonAgainst_148 : decode cX1_reasonAgainst 148 = .ok (.iload 7, 2) := by decide +kernel
theorem dX1_reasonAgainst_150 : decode cX1_reasonAgainst 150 = .ok (.ifCond .ne 8, 3) := by decide +kernel
theorem dX1_reasonAgainst_153 : decode cX1_reasonAgainst 153 = .ok (.iload 8, 2) := by decide +kernel
theorem dX1_reasonAgainst_155 : decode cX1_reasonAgainst 155 = .ok (.ifCond .eq 7, 3) := by decide +kernel
theorem dX1_reasonAgainst_158 : decode cX1_reasonAgainst 158 = .ok (.iconst 5, 1) := by decide +kernel
theorem dX1_reasonAgainst_159 : decode cX1_reasonAgainst 159 = .ok (.goto 4, 3) := by decide +kernel
theorem dX1_reasonAgainst_162 : decode cX1_reasonAgainst 162 = .ok (.iconst 0, 1) := by decide +kernel
theorem dX1_reasonAgainst_163 : decode cX1_reasonAgainst 163 = .ok (.ireturn, 1) := by decide +kernel
theorem dX1_degreeOf_0 : decode cX1_degreeOf 0 = .ok (.aload_n 0, 1) := by decide +kernel
theorem dX1_degreeOf_1 : decode cX1_degreeOf 1 = .ok (.iload_n 1, 1) := by decide +kernel
theorem dX1_degreeOf_2 : decode cX1_degreeOf 2 = .ok (.iload_n 1, 1) := by decide +kernel
theorem dX1_degreeOf_3 : decode cX1_degreeOf 3 = .ok (.invokevirtual 32, 3) := by decide +kernel
theorem dX1_degreeOf_6 : decode cX1_degreeOf 6 = .ok (.istore_n 2, 1) := by decide +kernel
theorem dX1_degreeOf_7 : decode cX1_degreeOf 7 = .ok (.iconst 0, 1) := by decide +kernel
theorem dX1_degreeOf_8 : decode cX1_degreeOf 8 = .ok (.istore_n 3, 1) := by decide +kernel
theorem dX1_degreeOf_9 : decode cX1_degreeOf 9 = .ok (.iload_n 3, 1) := by decide +kernel
theorem dX1_degreeOf_10 : decode cX1_degreeOf 10 = .ok (.aload_n 0, 1) := by decide +kernel
theorem dX1_degreeOf_11 : decode cX1_degreeOf 11 = .ok (.getfield 15, 3) := by decide +kernel
theorem dX1_degreeOf_14 : decode cX1_degreeOf 14 = .ok (.if_icmp .ge 18, 3) := by decide +kernel
theorem dX1_degreeOf_17 : decode cX1_degreeOf 17 = .ok (.iload_n 2, 1) := by decide +kernel
theorem dX1_degreeOf_18 : decode cX1_degreeOf 18 = .ok (.aload_n 0, 1) := by decide +kernel
theorem dX1_degreeOf_19 : decode cX1_degreeOf 19 = .ok (.iload_n 1, 1) := by decide +kernel
theorem dX1_degreeOf_20 : decode cX1_degreeOf 20 = .ok (.iload_n 3, 1) := by decide +kernel
theorem dX1_degreeOf_21 : decode cX1_degreeOf 21 = .ok (.invokevirtual 32, 3) := by decide +kernel
theorem dX1_degreeOf_24 : decode cX1_degreeOf 24 = .ok (.iadd, 1) := by decide +kernel
theorem dX1_degreeOf_25 : decode cX1_degreeOf 25 = .ok (.istore_n 2, 1) := by decide +kernel
theorem dX1_degreeOf_26 : decode cX1_degreeOf 26 = .ok (.iinc 3 1, 3) := by decide +kernel
theorem dX1_degreeOf_29 : decode cX1_degreeOf 29 = .ok (.goto (-20), 3) := by decide +kernel
theorem dX1_degreeOf_32 : decode cX1_degreeOf 32 = .ok (.iload_n 2, 1) := by decide +kernel
theorem dX1_degreeOf_33 : decode cX1_degreeOf 33 = .ok (.ireturn, 1) := by decide +kernel
theorem dX1_loopCount_0 : decode cX1_loopCount 0 = .ok (.iconst 0, 1) := by decide +kernel
theorem dX1_loopCount_1 : decode cX1_loopCount 1 = .ok (.istore_n 1, 1) := by decide +kernel
theorem dX1_loopCount_2 : decode cX1_loopCount 2 = .ok (.iconst 0, 1) := by decide +kernel
theorem dX1_loopCount_3 : decode cX1_loopCount 3 = .ok (.istore_n 2, 1) := by decide +kernel
theorem dX1_loopCount_4 : decode cX1_loopCount 4 = .ok (.iload_n 2, 1) := by decide +kernel
theorem dX1_loopCount_5 : decode cX1_loopCount 5 = .ok (.aload_n 0, 1) := by decide +kernel
theorem dX1_loopCount_6 : decode cX1_loopCount 6 = .ok (.getfield 15, 3) := by decide +kernel
theorem dX1_loopCount_9 : decode cX1_loopCount 9 = .ok (.if_icmp .ge 18, 3) := by decide +kernel
theorem dX1_loopCount_12 : decode cX1_loopCount 12 = .ok (.iload_n 1, 1) := by decide +kernel
theorem dX1_loopCount_13 : decode cX1_loopCount 13 = .ok (.aload_n 0, 1) := by decide +kernel
theorem dX1_loopCount_14 : decode cX1_loopCount 14 = .ok (.iload_n 2, 1) := by decide +kernel
theorem dX1_loopCount_15 : decode cX1_loopCount 15 = .ok (.iload_n 2, 1) := by decide +kernel
theorem dX1_loopCount_16 : decode cX1_loopCount 16 = .ok (.invokevirtual 32, 3) := by decide +kernel
theorem dX1_loopCount_19 : decode cX1_loopCount 19 = .ok (.iadd, 1) := by decide +kernel
theorem dX1_loopCount_20 : decode cX1_loopCount 20 = .ok (.istore_n 1, 1) := by decide +kernel
theorem dX1_loopCount_21 : decode cX1_loopCount 21 = .ok (.iinc 2 1, 3) := by decide +kernel
theorem dX1_loopCount_24 : decode cX1_loopCount 24 = .ok (.goto (-20), 3) := by decide +kernel
theorem dX1_loopCount_27 : decode cX1_loopCount 27 = .ok (.iload_n 1, 1) := by decide +kernel
theorem dX1_loopCount_28 : decode cX1_loopCount 28 = .ok (.ireturn, 1) := by decide +kernel
theorem dX1_defectCount_0 : decode cX1_defectCount 0 = .ok (.aload_n 0, 1) := by decide +kernel
theorem dX1_defectCount_1 : decode cX1_defectCount 1 = .ok (.invokevirtual 35, 3) := by decide +kernel
theorem dX1_defectCount_4 : decode cX1_defectCount 4 = .ok (.istore_n 1, 1) := by decide +kernel
theorem dX1_defectCount_5 : decode cX1_defectCount 5 = .ok (.iconst 0, 1) := by decide +kernel
theorem dX1_defectCount_6 : decode cX1_defectCount 6 = .ok (.istore_n 2, 1) := by decide +kernel
theorem dX1_defectCount_7 : decode cX1_defectCount 7 = .ok (.iload_n 2, 1) := by decide +kernel
theorem dX1_defectCount_8 : decode cX1_defectCount 8 = .ok (.aload_n 0, 1) := by decide +kernel
theorem dX1_defectCount_9 : decode cX1_defectCount 9 = .ok (.getfield 15, 3) := by decide +kernel
theorem dX1_defectCount_12 : decode cX1_defectCount 12 = .ok (.if_icmp .ge 42, 3) := by decide +kernel
theorem dX1_defectCount_15 : decode cX1_defectCount 15 = .ok (.iload_n 2, 1) := by decide +kernel
theorem dX1_defectCount_16 : decode cX1_defectCount 16 = .ok (.iconst 1, 1) := by decide +kernel
theorem dX1_defectCount_17 : decode cX1_defectCount 17 = .ok (.iadd, 1) := by decide +kernel
theorem dX1_defectCount_18 : decode cX1_defectCount 18 = .ok (.istore_n 3, 1) := by decide +kernel
theorem dX1_defectCount_19 : decode cX1_defectCount 19 = .ok (.iload_n 3, 1) := by decide +kernel
theorem dX1_defectCount_20 : decode cX1_defectCount 20 = .ok (.aload_n 0, 1) := by decide +kernel
theorem dX1_defectCount_21 : decode cX1_defectCount 21 = .ok (.getfield 15, 3) := by decide +kernel
theorem dX1_defectCount_24 : decode cX1_defectCount 24 = .ok (.if_icmp .ge 24, 3) := by decide +kernel
theorem dX1_defectCount_27 : decode cX1_defectCount 27 = .ok (.iload_n 1, 1) := by decide +kernel
theorem dX1_defectCount_28 : decode cX1_defectCount 28 = .ok (.iconst 0, 1) := by decide +kernel
theorem dX1_defectCount_29 : decode cX1_defectCount 29 = .ok (.aload_n 0, 1) := by decide +kernel
theorem dX1_defectCount_30 : decode cX1_defectCount 30 = .ok (.iload_n 2, 1) := by decide +kernel
theorem dX1_defectCount_31 : decode cX1_defectCount 31 = .ok (.iload_n 3, 1) := by decide +kernel
theorem dX1_defectCount_32 : decode cX1_defectCount 32 = .ok (.invokevirtual 32, 3) := by decide +kernel
theorem dX1_defectCount_35 : decode cX1_defectCount 35 = .ok (.iconst 1, 1) := by decide +kernel
theorem dX1_defectCount_36 : decode cX1_defectCount 36 = .ok (.isub, 1) := by decide +kernel
theorem dX1_defectCount_37 : decode cX1_defectCount 37 = .ok (.invokestatic 39, 3) := by decide +kernel
theorem dX1_defectCount_40 : decode cX1_defectCount 40 = .ok (.iadd, 1) := by decide +kernel
theorem dX1_defectCount_41 : decode cX1_defectCount 41 = .ok (.istore_n 1, 1) := by decide +kernel
theorem dX1_defectCount_42 : decode cX1_defectCount 42 = .ok (.iinc 3 1, 3) := by decide +kernel
theorem dX1_defectCount_45 : decode cX1_defectCount 45 = .ok (.goto (-26), 3) := by decide +kernel
theorem dX1_defectCount_48 : decode cX1_defectCount 48 = .ok (.iinc 2 1, 3) := by decide +kernel
theorem dX1_defectCount_51 : decode cX1_defectCount 51 = .ok (.goto (-44), 3) := by decide +kernel
theorem dX1_defectCount_54 : decode cX1_defectCount 54 = .ok (.iload_n 1, 1) := by decide +kernel
theorem dX1_defectCount_55 : decode cX1_defectCount 55 = .ok (.ireturn, 1) := by decide +kernel
theorem dX1_triangleCount_0 : decode cX1_triangleCount 0 = .ok (.iconst 0, 1) := by decide +kernel
theorem dX1_triangleCount_1 : decode cX1_triangleCount 1 = .ok (.istore_n 1, 1) := by decide +kernel
theorem dX1_triangleCount_2 : decode cX1_triangleCount 2 = .ok (.iconst 0, 1) := by decide +kernel
theorem dX1_triangleCount_3 : decode cX1_triangleCount 3 = .ok (.istore_n 2, 1) := by decide +kernel
theorem dX1_triangleCount_4 : decode cX1_triangleCount 4 = .ok (.iload_n 2, 1) := by decide +kernel
theorem dX1_triangleCount_5 : decode cX1_triangleCount 5 = .ok (.aload_n 0, 1) := by decide +kernel
theorem dX1_triangleCount_6 : decode cX1_triangleCount 6 = .ok (.getfield 15, 3) := by decide +kernel
theorem dX1_triangleCount_9 : decode cX1_triangleCount 9 = .ok (.if_icmp .ge 45, 3) := by decide +kernel
theorem dX1_triangleCount_12 : decode cX1_triangleCount 12 = .ok (.iload_n 2, 1) := by decide +kernel
theorem dX1_triangleCount_13 : decode cX1_triangleCount 13 = .ok (.iconst 1, 1) := by decide +kernel
theorem dX1_triangleCount_14 : decode cX1_triangleCount 14 = .ok (.iadd, 1) := by decide +kernel
theorem dX1_triangleCount_15 : decode cX1_triangleCount 15 = .ok (.istore_n 3, 1) := by decide +kernel
theorem dX1_triangleCount_16 : decode cX1_triangleCount 16 = .ok (.iload_n 3, 1) := by decide +kernel
theorem dX1_triangleCount_17 : decode cX1_triangleCount 17 = .ok (.aload_n 0, 1) := by decide +kernel
theorem dX1_triangleCount_18 : decode cX1_triangleCount 18 = .ok (.getfield 15, 3) := by decide +kernel
theorem dX1_triangleCount_21 : decode cX1_triangleCount 21 = .ok (.if_icmp .ge 27, 3) := by decide +kernel
theorem dX1_triangleCount_24 : decode cX1_triangleCount 24 = .ok (.aload_n 0, 1) := by decide +kernel
theorem dX1_triangleCount_25 : decode cX1_triangleCount 25 = .ok (.iload_n 2, 1) := by decide +kernel
theorem dX1_triangleCount_26 : decode cX1_triangleCount 26 = .ok (.iload_n 3, 1) := by decide +kernel
theorem dX1_triangleCount_27 : decode cX1_triangleCount 27 = .ok (.invokevirtual 32, 3) := by decide +kernel
theorem dX1_triangleCount_30 : decode cX1_triangleCount 30 = .ok (.ifCond .le 12, 3) := by decide +kernel
theorem dX1_triangleCount_33 : decode cX1_triangleCount 33 = .ok (.iload_n 1, 1) := by decide +kernel
theorem dX1_triangleCount_34 : decode cX1_triangleCount 34 = .ok (.aload_n 0, 1) := by decide +kernel
theorem dX1_triangleCount_35 : decode cX1_triangleCount 35 = .ok (.iload_n 2, 1) := by decide +kernel
theorem dX1_triangleCount_36 : decode cX1_triangleCount 36 = .ok (.iload_n 3, 1) := by decide +kernel
theorem dX1_triangleCount_37 : decode cX1_triangleCount 37 = .ok (.invokevirtual 44, 3) := by decide +kernel
theorem dX1_triangleCount_40 : decode cX1_triangleCount 40 = .ok (.iadd, 1) := by decide +kernel
theorem dX1_triangleCount_41 : decode cX1_triangleCount 41 = .ok (.istore_n 1, 1) := by decide +kernel
theorem dX1_triangleCount_42 : decode cX1_triangleCount 42 = .ok (.iinc 3 1, 3) := by decide +kernel
theorem dX1_triangleCount_45 : decode cX1_triangleCount 45 = .ok (.goto (-29), 3) := by decide +kernel
theorem dX1_triangleCount_48 : decode cX1_triangleCount 48 = .ok (.iinc 2 1, 3) := by decide +kernel
theorem dX1_triangleCount_51 : decode cX1_triangleCount 51 = .ok (.goto (-47), 3) := by decide +kernel
theorem dX1_triangleCount_54 : decode cX1_triangleCount 54 = .ok (.iload_n 1, 1) := by decide +kernel
theorem dX1_triangleCount_55 : decode cX1_triangleCount 55 = .ok (.ireturn, 1) := by decide +kernel
theorem dX1_commonNeighboursBehind_0 : decode cX1_commonNeighboursBehind 0 = .ok (.iconst 0, 1) := by decide +kernel
theorem dX1_commonNeighboursBehind_1 : decode cX1_commonNeighboursBehind 1 = .ok (.istore_n 3, 1) := by decide +kernel
theorem dX1_commonNeighboursBehind_2 : decode cX1_commonNeighboursBehind 2 = .ok (.iload_n 2, 1) := by decide +kernel
theorem dX1_commonNeighboursBehind_3 : decode cX1_commonNeighboursBehind 3 = .ok (.iconst 1, 1) := by decide +kernel
theorem dX1_commonNeighboursBehind_4 : decode cX1_commonNeighboursBehind 4 = .ok (.iadd, 1) := by decide +kernel
theorem dX1_commonNeighboursBehind_5 : decode cX1_commonNeighboursBehind 5 = .ok (.istore 4, 2) := by decide +kernel
theorem dX1_commonNeighboursBehind_7 : decode cX1_commonNeighboursBehind 7 = .ok (.iload 4, 2) := by decide +kernel
theorem dX1_commonNeighboursBehind_9 : decode cX1_commonNeighboursBehind 9 = .ok (.aload_n 0, 1) := by decide +kernel
theorem dX1_commonNeighboursBehind_10 : decode cX1_commonNeighboursBehind 10 = .ok (.getfield 15, 3) := by decide +kernel
theorem dX1_commonNeighboursBehind_13 : decode cX1_commonNeighboursBehind 13 = .ok (.if_icmp .ge 32, 3) := by decide +kernel
theorem dX1_commonNeighboursBehind_16 : decode cX1_commonNeighboursBehind 16 = .ok (.aload_n 0, 1) := by decide +kernel
theorem dX1_commonNeighboursBehind_17 : decode cX1_commonNeighboursBehind 17 = .ok (.iload_n 1, 1) := by decide +kernel
theorem dX1_commonNeighboursBehind_18 : decode cX1_commonNeighboursBehind 18 = .ok (.iload 4, 2) := by decide +kernel
theorem dX1_commonNeighboursBehind_20 : decode cX1_commonNeighboursBehind 20 = .ok (.invokevirtual 32, 3) := by decide +kernel
theorem dX1_commonNeighboursBehind_23 : decode cX1_commonNeighboursBehind 23 = .ok (.ifCond .le 16, 3) := by decide +kernel
theorem dX1_commonNeighboursBehind_26 : decode cX1_commonNeighboursBehind 26 = .ok (.aload_n 0, 1) := by decide +kernel
theorem dX1_commonNeighboursBehind_27 : decode cX1_commonNeighboursBehind 27 = .ok (.iload_n 2, 1) := by decide +kernel
theorem dX1_commonNeighboursBehind_28 : decode cX1_commonNeighboursBehind 28 = .ok (.iload 4, 2) := by decide +kernel
theorem dX1_commonNeighboursBehind_30 : decode cX1_commonNeighboursBehind 30 = .ok (.invokevirtual 32, 3) := by decide +kernel
theorem dX1_commonNeighboursBehind_33 : decode cX1_commonNeighboursBehind 33 = .ok (.ifCond .le 6, 3) := by decide +kernel
theorem dX1_commonNeighboursBehind_36 : decode cX1_commonNeighboursBehind 36 = .ok (.iinc 3 1, 3) := by decide +kernel
theorem dX1_commonNeighboursBehind_39 : decode cX1_commonNeighboursBehind 39 = .ok (.iinc 4 1, 3) := by decide +kernel
theorem dX1_commonNeighboursBehind_42 : decode cX1_commonNeighboursBehind 42 = .ok (.goto (-35), 3) := by decide +kernel
theorem dX1_commonNeighboursBehind_45 : decode cX1_commonNeighboursBehind 45 = .ok (.iload_n 3, 1) := by decide +kernel
theorem dX1_commonNeighboursBehind_46 : decode cX1_commonNeighboursBehind 46 = .ok (.ireturn, 1) := by decide +kernel
theorem dX2_init_0 : decode cX2_init 0 = .ok (.aload_n 0, 1) := by decide +kernel
theorem dX2_init_1 : decode cX2_init 1 = .ok (.invokespecial 1, 3) := by decide +kernel
theorem dX2_init_4 : decode cX2_init 4 = .ok (.aload_n 0, 1) := by decide +kernel
theorem dX2_init_5 : decode cX2_init 5 = .ok (.bipush 10, 2) := by decide +kernel
theorem dX2_init_7 : decode cX2_init 7 = .ok (.anewarray 9, 3) := by decide +kernel
theorem dX2_init_10 : decode cX2_init 10 = .ok (.putfield 11, 3) := by decide +kernel
theorem dX2_init_13 : decode cX2_init 13 = .ok (.aload_n 0, 1) := by decide +kernel
theorem dX2_init_14 : decode cX2_init 14 = .ok (.bipush 10, 2) := by decide +kernel
theorem dX2_init_16 : decode cX2_init 16 = .ok (.anewarray 9, 3) := by decide +kernel
theorem dX2_init_19 : decode cX2_init 19 = .ok (.putfield 15, 3) := by decide +kernel
theorem dX2_init_22 : decode cX2_init 22 = .ok (.aload_n 0, 1) := by decide +kernel
theorem dX2_init_23 : decode cX2_init 23 = .ok (.bipush 10, 2) := by decide +kernel
theorem dX2_init_25 : decode cX2_init 25 = .ok (.newarray .int, 2) := by decide +kernel
theorem dX2_init_27 : decode cX2_init 27 = .ok (.putfield 18, 3) := by decide +kernel
theorem dX2_init_30 : decode cX2_init 30 = .ok (.aload_n 0, 1) := by decide +kernel
theorem dX2_init_31 : decode cX2_init 31 = .ok (.iconst 0, 1) := by decide +kernel
theorem dX2_init_32 : decode cX2_init 32 = .ok (.putfield 22, 3) := by decide +kernel
theorem dX2_init_35 : decode cX2_init 35 = .ok (.aload_n 0, 1) := by decide +kernel
theorem dX2_init_36 : decode cX2_init 36 = .ok (.iconst 0, 1) := by decide +kernel
theorem dX2_init_37 : decode cX2_init 37 = .ok (.putfield 26, 3) := by decide +kernel
theorem dX2_init_40 : decode cX2_init 40 = .ok (.iconst 0, 1) := by decide +kernel
theorem dX2_init_41 : decode cX2_init 41 = .ok (.istore_n 1, 1) := by decide +kernel
theorem dX2_init_42 : decode cX2_init 42 = .ok (.iload_n 1, 1) := by decide +kernel
theorem dX2_init_43 : decode cX2_init 43 = .ok (.bipush 10, 2) := by decide +kernel
theorem dX2_init_45 : decode cX2_init 45 = .ok (.if_icmp .ge 35, 3) := by decide +kernel
theorem dX2_init_48 : decode cX2_init 48 = .ok (.aload_n 0, 1) := by decide +kernel
theorem dX2_init_49 : decode cX2_init 49 = .ok (.getfield 11, 3) := by decide +kernel
theorem dX2_init_52 : decode cX2_init 52 = .ok (.iload_n 1, 1) := by decide +kernel
theorem dX2_init_53 : decode cX2_init 53 = .ok (.new 9, 3) := by decide +kernel
theorem dX2_init_56 : decode cX2_init 56 = .ok (.dup, 1) := by decide +kernel
theorem dX2_init_57 : decode cX2_init 57 = .ok (.invokespecial 29, 3) := by decide +kernel
theorem dX2_init_60 : decode cX2_init 60 = .ok (.aastore, 1) := by decide +kernel
theorem dX2_init_61 : decode cX2_init 61 = .ok (.aload_n 0, 1) := by decide +kernel
theorem dX2_init_62 : decode cX2_init 62 = .ok (.getfield 15, 3) := by decide +kernel
theorem dX2_init_65 : decode cX2_init 65 = .ok (.iload_n 1, 1) := by decide +kernel
theorem dX2_init_66 : decode cX2_init 66 = .ok (.new 9, 3) := by decide +kernel
theorem dX2_init_69 : decode cX2_init 69 = .ok (.dup, 1) := by decide +kernel
theorem dX2_init_70 : decode cX2_init 70 = .ok (.invokespecial 29, 3) := by decide +kernel
theorem dX2_init_73 : decode cX2_init 73 = .ok (.aastore, 1) := by decide +kernel
theorem dX2_init_74 : decode cX2_init 74 = .ok (.iinc 1 1, 3) := by decide +kernel
theorem dX2_init_77 : decode cX2_init 77 = .ok (.goto (-35), 3) := by decide +kernel
theorem dX2_init_80 : decode cX2_init 80 = .ok (.return_, 1) := by decide +kernel
theorem dX2_forget_0 : decode cX2_forget 0 = .ok (.aload_n 0, 1) := by decide +kernel
theorem dX2_forget_1 : decode cX2_forget 1 = .ok (.iconst 0, 1) := by decide +kernel
theorem dX2_forget_2 : decode cX2_forget 2 = .ok (.putfield 22, 3) := by decide +kernel
theorem dX2_forget_5 : decode cX2_forget 5 = .ok (.aload_n 0, 1) := by decide +kernel
theorem dX2_forget_6 : decode cX2_forget 6 = .ok (.iconst 0, 1) := by decide +kernel
theorem dX2_forget_7 : decode cX2_forget 7 = .ok (.putfield 26, 3) := by decide +kernel
theorem dX2_forget_10 : decode cX2_forget 10 = .ok (.return_, 1) := by decide +kernel
theorem dX2_remember_0 : decode cX2_remember 0 = .ok (.aload_n 0, 1) := by decide +kernel
theorem dX2_remember_1 : decode cX2_remember 1 = .ok (.getfield 11, 3) := by decide +kernel
theorem dX2_remember_4 : decode cX2_remember 4 = .ok (.aload_n 0, 1) := by decide +kernel
theorem dX2_remember_5 : decode cX2_remember 5 = .ok (.getfield 26, 3) := by decide +kernel
theorem dX2_remember_8 : decode cX2_remember 8 = .ok (.aaload, 1) := by decide +kernel
theorem dX2_remember_9 : decode cX2_remember 9 = .ok (.aload_n 1, 1) := by decide +kernel
theorem dX2_remember_10 : decode cX2_remember 10 = .ok (.invokevirtual 30, 3) := by decide +kernel
theorem dX2_remember_13 : decode cX2_remember 13 = .ok (.aload_n 0, 1) := by decide +kernel
theorem dX2_remember_14 : decode cX2_remember 14 = .ok (.getfield 15, 3) := by decide +kernel
theorem dX2_remember_17 : decode cX2_remember 17 = .ok (.aload_n 0, 1) := by decide +kernel
theorem dX2_remember_18 : decode cX2_remember 18 = .ok (.getfield 26, 3) := by decide +kernel
theorem dX2_remember_21 : decode cX2_remember 21 = .ok (.aaload, 1) := by decide +kernel
theorem dX2_remember_22 : decode cX2_remember 22 = .ok (.aload_n 2, 1) := by decide +kernel
theorem dX2_remember_23 : decode cX2_remember 23 = .ok (.invokevirtual 30, 3) := by decide +kernel
theorem dX2_remember_26 : decode cX2_remember 26 = .ok (.aload_n 0, 1) := by decide +kernel
theorem dX2_remember_27 : decode cX2_remember 27 = .ok (.getfield 18, 3) := by decide +kernel
theorem dX2_remember_30 : decode cX2_remember 30 = .ok (.aload_n 0, 1) := by decide +kernel
theorem dX2_remember_31 : decode cX2_remember 31 = .ok (.getfield 26, 3) := by decide +kernel
theorem dX2_remember_34 : decode cX2_remember 34 = .ok (.iload_n 3, 1) := by decide +kernel
theorem dX2_remember_35 : decode cX2_remember 35 = .ok (.iastore, 1) := by decide +kernel
theorem dX2_remember_36 : decode cX2_remember 36 = .ok (.aload_n 0, 1) := by decide +kernel
theorem dX2_remember_37 : decode cX2_remember 37 = .ok (.aload_n 0, 1) := by decide +kernel
theorem dX2_remember_38 : decode cX2_remember 38 = .ok (.getfield 26, 3) := by decide +kernel
theorem dX2_remember_41 : decode cX2_remember 41 = .ok (.iconst 1, 1) := by decide +kernel
theorem dX2_remember_42 : decode cX2_remember 42 = .ok (.iadd, 1) := by decide +kernel
theorem dX2_remember_43 : decode cX2_remember 43 = .ok (.bipush 10, 2) := by decide +kernel
theorem dX2_remember_45 : decode cX2_remember 45 = .ok (.if_icmp .ge 12, 3) := by decide +kernel
theorem dX2_remember_48 : decode cX2_remember 48 = .ok (.aload_n 0, 1) := by decide +kernel
theorem dX2_remember_49 : decode cX2_remember 49 = .ok (.getfield 26, 3) := by decide +kernel
theorem dX2_remember_52 : decode cX2_remember 52 = .ok (.iconst 1, 1) := by decide +kernel
theorem dX2_remember_53 : decode cX2_remember 53 = .ok (.iadd, 1) := by decide +kernel
theorem dX2_remember_54 : decode cX2_remember 54 = .ok (.goto 4, 3) := by decide +kernel
theorem dX2_remember_57 : decode cX2_remember 57 = .ok (.iconst 0, 1) := by decide +kernel
theorem dX2_remember_58 : decode cX2_remember 58 = .ok (.putfield 26, 3) := by decide +kernel
theorem dX2_remember_61 : decode cX2_remember 61 = .ok (.aload_n 0, 1) := by decide +kernel
theorem dX2_remember_62 : decode cX2_remember 62 = .ok (.aload_n 0, 1) := by decide +kernel
theorem dX2_remember_63 : decode cX2_remember 63 = .ok (.getfield 22, 3) := by decide +kernel
theorem dX2_remember_66 : decode cX2_remember 66 = .ok (.iconst 1, 1) := by decide +kernel
theorem dX2_remember_67 : decode cX2_remember 67 = .ok (.iadd, 1) := by decide +kernel
theorem dX2_remember_68 : decode cX2_remember 68 = .ok (.bipush 10, 2) := by decide +kernel
theorem dX2_remember_70 : decode cX2_remember 70 = .ok (.invokestatic 34, 3) := by decide +kernel
theorem dX2_remember_73 : decode cX2_remember 73 = .ok (.putfield 22, 3) := by decide +kernel
theorem dX2_remember_76 : decode cX2_remember 76 = .ok (.return_, 1) := by decide +kernel
theorem dX3_init_0 : decode cX3_init 0 = .ok (.aload_n 0, 1) := by decide +kernel
theorem dX3_init_1 : decode cX3_init 1 = .ok (.invokespecial 3, 3) := by decide +kernel
theorem dX3_init_4 : decode cX3_init 4 = .ok (.aload_n 0, 1) := by decide +kernel
theorem dX3_init_5 : decode cX3_init 5 = .ok (.bipush 64, 2) := by decide +kernel
theorem dX3_init_7 : decode cX3_init 7 = .ok (.newarray .char, 2) := by decide +kernel
theorem dX3_init_9 : decode cX3_init 9 = .ok (.putfield 9, 3) := by decide +kernel
theorem dX3_init_12 : decode cX3_init 12 = .ok (.aload_n 0, 1) := by decide +kernel
theorem dX3_init_13 : decode cX3_init 13 = .ok (.iconst 0, 1) := by decide +kernel
theorem dX3_init_14 : decode cX3_init 14 = .ok (.putfield 15, 3) := by decide +kernel
theorem dX3_init_17 : decode cX3_init 17 = .ok (.return_, 1) := by decide +kernel
theorem dX4_init_0 : decode cX4_init 0 = .ok (.aload_n 0, 1) := by decide +kernel
theorem dX4_init_1 : decode cX4_init 1 = .ok (.invokespecial 3, 3) := by decide +kernel
theorem dX4_init_4 : decode cX4_init 4 = .ok (.aload_n 0, 1) := by decide +kernel
theorem dX4_init_5 : decode cX4_init 5 = .ok (.bipush 8, 2) := by decide +kernel
theorem dX4_init_7 : decode cX4_init 7 = .ok (.newarray .int, 2) := by decide +kernel
theorem dX4_init_9 : decode cX4_init 9 = .ok (.putfield 9, 3) := by decide +kernel
theorem dX4_init_12 : decode cX4_init 12 = .ok (.aload_n 0, 1) := by decide +kernel
theorem dX4_init_13 : decode cX4_init 13 = .ok (.bipush 8, 2) := by decide +kernel
theorem dX4_init_15 : decode cX4_init 15 = .ok (.newarray .int, 2) := by decide +kernel
theorem dX4_init_17 : decode cX4_init 17 = .ok (.putfield 15, 3) := by decide +kernel
theorem dX4_init_20 : decode cX4_init 20 = .ok (.aload_n 0, 1) := by decide +kernel
theorem dX4_init_21 : decode cX4_init 21 = .ok (.iconst 0, 1) := by decide +kernel
theorem dX4_init_22 : decode cX4_init 22 = .ok (.putfield 18, 3) := by decide +kernel
theorem dX4_init_25 : decode cX4_init 25 = .ok (.return_, 1) := by decide +kernel
theorem dX4_find_0 : decode cX4_find 0 = .ok (.aload_n 0, 1) := by decide +kernel
theorem dX4_find_1 : decode cX4_find 1 = .ok (.aload_n 1, 1) := by decide +kernel
theorem dX4_find_2 : decode cX4_find 2 = .ok (.invokevirtual 22, 3) := by decide +kernel
theorem dX4_find_5 : decode cX4_find 5 = .ok (.putfield 18, 3) := by decide +kernel
theorem dX4_find_8 : decode cX4_find 8 = .ok (.iconst 0, 1) := by decide +kernel
theorem dX4_find_9 : decode cX4_find 9 = .ok (.istore_n 2, 1) := by decide +kernel
theorem dX4_find_10 : decode cX4_find 10 = .ok (.iload_n 2, 1) := by decide +kernel
theorem dX4_find_11 : decode cX4_find 11 = .ok (.aload_n 0, 1) := by decide +kernel
theorem dX4_find_12 : decode cX4_find 12 = .ok (.getfield 18, 3) := by decide +kernel
theorem dX4_find_15 : decode cX4_find 15 = .ok (.if_icmp .ge 16, 3) := by decide +kernel
theorem dX4_find_18 : decode cX4_find 18 = .ok (.aload_n 0, 1) := by decide +kernel
theorem dX4_find_19 : decode cX4_find 19 = .ok (.getfield 9, 3) := by decide +kernel
theorem dX4_find_22 : decode cX4_find 22 = .ok (.iload_n 2, 1) := by decide +kernel
theorem dX4_find_23 : decode cX4_find 23 = .ok (.iload_n 2, 1) := by decide +kernel
theorem dX4_find_24 : decode cX4_find 24 = .ok (.iastore, 1) := by decide +kernel
theorem dX4_find_25 : decode cX4_find 25 = .ok (.iinc 2 1, 3) := by decide +kernel
theorem dX4_find_28 : decode cX4_find 28 = .ok (.goto (-18), 3) := by decide +kernel
theorem dX4_find_31 : decode cX4_find 31 = .ok (.iconst 0, 1) := by decide +kernel
theorem dX4_find_32 : decode cX4_find 32 = .ok (.istore_n 2, 1) := by decide +kernel
theorem dX4_find_33 : decode cX4_find 33 = .ok (.iload_n 2, 1) := by decide +kernel
theorem dX4_find_34 : decode cX4_find 34 = .ok (.aload_n 0, 1) := by decide +kernel
theorem dX4_find_35 : decode cX4_find 35 = .ok (.getfield 18, 3) := by decide +kernel
theorem dX4_find_38 : decode cX4_find 38 = .ok (.if_icmp .ge 52, 3) := by decide +kernel
theorem dX4_find_41 : decode cX4_find 41 = .ok (.iload_n 2, 1) := by decide +kernel
theorem dX4_find_42 : decode cX4_find 42 = .ok (.iconst 1, 1) := by decide +kernel
theorem dX4_find_43 : decode cX4_find 43 = .ok (.iadd, 1) := by decide +kernel
theorem dX4_find_44 : decode cX4_find 44 = .ok (.istore_n 3, 1) := by decide +kernel
theorem dX4_find_45 : decode cX4_find 45 = .ok (.iload_n 3, 1) := by decide +kernel
theorem dX4_find_46 : decode cX4_find 46 = .ok (.aload_n 0, 1) := by decide +kernel
theorem dX4_find_47 : decode cX4_find 47 = .ok (.getfield 18, 3) := by decide +kernel
theorem dX4_find_50 : decode cX4_find 50 = .ok (.if_icmp .ge 34, 3) := by decide +kernel
theorem dX4_find_53 : decode cX4_find 53 = .ok (.aload_n 1, 1) := by decide +kernel
theorem dX4_find_54 : decode cX4_find 54 = .ok (.iload_n 2, 1) := by decide +kernel
theorem dX4_find_55 : decode cX4_find 55 = .ok (.iload_n 3, 1) := by decide +kernel
theorem dX4_find_56 : decode cX4_find 56 = .ok (.invokevirtual 28, 3) := by decide +kernel
theorem dX4_find_59 : decode cX4_find 59 = .ok (.ifCond .le 19, 3) := by decide +kernel
theorem dX4_find_62 : decode cX4_find 62 = .ok (.aload_n 0, 1) := by decide +kernel
theorem dX4_find_63 : decode cX4_find 63 = .ok (.aload_n 0, 1) := by decide +kernel
theorem dX4_find_64 : decode cX4_find 64 = .ok (.getfield 9, 3) := by decide +kernel
theorem dX4_find_67 : decode cX4_find 67 = .ok (.iload_n 2, 1) := by decide +kernel
theorem dX4_find_68 : decode cX4_find 68 = .ok (.iaload, 1) := by decide +kernel
theorem dX4_find_69 : decode cX4_find 69 = .ok (.aload_n 0, 1) := by decide +kernel
theorem dX4_find_70 : decode cX4_find 70 = .ok (.getfield 9, 3) := by decide +kernel
theorem dX4_find_73 : decode cX4_find 73 = .ok (.iload_n 3, 1) := by decide +kernel
theorem dX4_find_74 : decode cX4_find 74 = .ok (.iaload, 1) := by decide +kernel
theorem dX4_find_75 : decode cX4_find 75 = .ok (.invokevirtual 32, 3) := by decide +kernel
theorem dX4_find_78 : decode cX4_find 78 = .ok (.iinc 3 1, 3) := by decide +kernel
theorem dX4_find_81 : decode cX4_find 81 = .ok (.goto (-36), 3) := by decide +kernel
theorem dX4_find_84 : decode cX4_find 84 = .ok (.iinc 2 1, 3) := by decide +kernel
theorem dX4_find_87 : decode cX4_find 87 = .ok (.goto (-54), 3) := by decide +kernel
theorem dX4_find_90 : decode cX4_find 90 = .ok (.return_, 1) := by decide +kernel
theorem dX4_merge_0 : decode cX4_merge 0 = .ok (.iload_n 1, 1) := by decide +kernel
theorem dX4_merge_1 : decode cX4_merge 1 = .ok (.iload_n 2, 1) := by decide +kernel
theorem dX4_merge_2 : decode cX4_merge 2 = .ok (.invokestatic 36, 3) := by decide +kernel
theorem dX4_merge_5 : decode cX4_merge 5 = .ok (.istore_n 3, 1) := by decide +kernel
theorem dX4_merge_6 : decode cX4_merge 6 = .ok (.iload_n 1, 1) := by decide +kernel
theorem dX4_merge_7 : decode cX4_merge 7 = .ok (.iload_n 2, 1) := by decide +kernel
theorem dX4_merge_8 : decode cX4_merge 8 = .ok (.invokestatic 41, 3) := by decide +kernel
theorem dX4_merge_11 : decode cX4_merge 11 = .ok (.istore 4, 2) := by decide +kernel
theorem dX4_merge_13 : decode cX4_merge 13 = .ok (.iload_n 3, 1) := by decide +kernel
theorem dX4_merge_14 : decode cX4_merge 14 = .ok (.istore 5, 2) := by decide +kernel
theorem dX4_merge_16 : decode cX4_merge 16 = .ok (.iload 5, 2) := by decide +kernel
theorem dX4_merge_18 : decode cX4_merge 18 = .ok (.aload_n 0, 1) := by decide +kernel
theorem dX4_merge_19 : decode cX4_merge 19 = .ok (.getfield 18, 3) := by decide +kernel
theorem dX4_merge_22 : decode cX4_merge 22 = .ok (.if_icmp .ge 35, 3) := by decide +kernel
theorem dX4_merge_25 : decode cX4_merge 25 = .ok (.iload_n 3, 1) := by decide +kernel
theorem dX4_merge_26 : decode cX4_merge 26 = .ok (.iload 4, 2) := by decide +kernel
theorem dX4_merge_28 : decode cX4_merge 28 = .ok (.if_icmp .eq 29, 3) := by decide +kernel
theorem dX4_merge_31 : decode cX4_merge 31 = .ok (.aload_n 0, 1) := by decide +kernel
theorem dX4_merge_32 : decode cX4_merge 32 = .ok (.getfield 9, 3) := by decide +kernel
theorem dX4_merge_35 : decode cX4_merge 35 = .ok (.iload 5, 2) := by decide +kernel
theorem dX4_merge_37 : decode cX4_merge 37 = .ok (.iaload, 1) := by decide +kernel
theorem dX4_merge_38 : decode cX4_merge 38 = .ok (.iload_n 3, 1) := by decide +kernel
theorem dX4_merge_39 : decode cX4_merge 39 = .ok (.if_icmp .ne 12, 3) := by decide +kernel
theorem dX4_merge_42 : decode cX4_merge 42 = .ok (.aload_n 0, 1) := by decide +kernel
theorem dX4_merge_43 : decode cX4_merge 43 = .ok (.getfield 9, 3) := by decide +kernel
theorem dX4_merge_46 : decode cX4_merge 46 = .ok (.iload 5, 2) := by decide +kernel
theorem dX4_merge_48 : decode cX4_merge 48 = .ok (.iload 4, 2) := by decide +kernel
theorem dX4_merge_50 : decode cX4_merge 50 = .ok (.iastore, 1) := by decide +kernel
theorem dX4_merge_51 : decode cX4_merge 51 = .ok (.iinc 5 1, 3) := by decide +kernel
theorem dX4_merge_54 : decode cX4_merge 54 = .ok (.goto (-38), 3) := by decide +kernel
theorem dX4_merge_57 : decode cX4_merge 57 = .ok (.return_, 1) := by decide +kernel
theorem dX4_count_0 : decode cX4_count 0 = .ok (.aload_n 0, 1) := by decide +kernel
theorem dX4_count_1 : decode cX4_count 1 = .ok (.aload_n 0, 1) := by decide +kernel
theorem dX4_count_2 : decode cX4_count 2 = .ok (.getfield 18, 3) := by decide +kernel
theorem dX4_count_5 : decode cX4_count 5 = .ok (.invokevirtual 44, 3) := by decide +kernel
theorem dX4_count_8 : decode cX4_count 8 = .ok (.ireturn, 1) := by decide +kernel
theorem dX4_countBefore_0 : decode cX4_countBefore 0 = .ok (.iconst 0, 1) := by decide +kernel
theorem dX4_countBefore_1 : decode cX4_countBefore 1 = .ok (.istore_n 2, 1) := by decide +kernel
theorem dX4_countBefore_2 : decode cX4_countBefore 2 = .ok (.iconst 0, 1) := by decide +kernel
theorem dX4_countBefore_3 : decode cX4_countBefore 3 = .ok (.istore_n 3, 1) := by decide +kernel
theorem dX4_countBefore_4 : decode cX4_countBefore 4 = .ok (.iload_n 3, 1) := by decide +kernel
theorem dX4_countBefore_5 : decode cX4_countBefore 5 = .ok (.iload_n 1, 1) := by decide +kernel
theorem dX4_countBefore_6 : decode cX4_countBefore 6 = .ok (.if_icmp .ge 30, 3) := by decide +kernel
theorem dX4_countBefore_9 : decode cX4_countBefore 9 = .ok (.iload_n 3, 1) := by decide +kernel
theorem dX4_countBefore_10 : decode cX4_countBefore 10 = .ok (.aload_n 0, 1) := by decide +kernel
theorem dX4_countBefore_11 : decode cX4_countBefore 11 = .ok (.getfield 18, 3) := by decide +kernel
theorem dX4_countBefore_14 : decode cX4_countBefore 14 = .ok (.if_icmp .ge 22, 3) := by decide +kernel
theorem dX4_countBefore_17 : decode cX4_countBefore 17 = .ok (.aload_n 0, 1) := by decide +kernel
theorem dX4_countBefore_18 : decode cX4_countBefore 18 = .ok (.getfield 9, 3) := by decide +kernel
theorem dX4_countBefore_21 : decode cX4_countBefore 21 = .ok (.iload_n 3, 1) := by decide +kernel
theorem dX4_countBefore_22 : decode cX4_countBefore 22 = .ok (.iaload, 1) := by decide +kernel
theorem dX4_countBefore_23 : decode cX4_countBefore 23 = .ok (.iload_n 3, 1) := by decide +kernel
theorem dX4_countBefore_24 : decode cX4_countBefore 24 = .ok (.if_icmp .ne 6, 3) := by decide +kernel
theorem dX4_countBefore_27 : decode cX4_countBefore 27 = .ok (.iinc 2 1, 3) := by decide +kernel
theorem dX4_countBefore_30 : decode cX4_countBefore 30 = .ok (.iinc 3 1, 3) := by decide +kernel
theorem dX4_countBefore_33 : decode cX4_countBefore 33 = .ok (.goto (-29), 3) := by decide +kernel
theorem dX4_countBefore_36 : decode cX4_countBefore 36 = .ok (.iload_n 2, 1) := by decide +kernel
theorem dX4_countBefore_37 : decode cX4_countBefore 37 = .ok (.ireturn, 1) := by decide +kernel
theorem dX5_init_0 : decode cX5_init 0 = .ok (.aload_n 0, 1) := by decide +kernel
theorem dX5_init_1 : decode cX5_init 1 = .ok (.invokespecial 3, 3) := by decide +kernel
theorem dX5_init_4 : decode cX5_init 4 = .ok (.aload_n 0, 1) := by decide +kernel
theorem dX5_init_5 : decode cX5_init 5 = .ok (.sipush 400, 3) := by decide +kernel
theorem dX5_init_8 : decode cX5_init 8 = .ok (.newarray .byte, 2) := by decide +kernel
theorem dX5_init_10 : decode cX5_init 10 = .ok (.putfield 11, 3) := by decide +kernel
theorem dX5_init_13 : decode cX5_init 13 = .ok (.aload_n 0, 1) := by decide +kernel
theorem dX5_init_14 : decode cX5_init 14 = .ok (.new 15, 3) := by decide +kernel
theorem dX5_init_17 : decode cX5_init 17 = .ok (.dup, 1) := by decide +kernel
theorem dX5_init_18 : decode cX5_init 18 = .ok (.invokespecial 17, 3) := by decide +kernel
theorem dX5_init_21 : decode cX5_init 21 = .ok (.putfield 18, 3) := by decide +kernel
theorem dX5_init_24 : decode cX5_init 24 = .ok (.aload_n 0, 1) := by decide +kernel
theorem dX5_init_25 : decode cX5_init 25 = .ok (.new 15, 3) := by decide +kernel
theorem dX5_init_28 : decode cX5_init 28 = .ok (.dup, 1) := by decide +kernel
theorem dX5_init_29 : decode cX5_init 29 = .ok (.invokespecial 17, 3) := by decide +kernel
theorem dX5_init_32 : decode cX5_init 32 = .ok (.putfield 22, 3) := by decide +kernel
theorem dX5_init_35 : decode cX5_init 35 = .ok (.aload_n 0, 1) := by decide +kernel
theorem dX5_init_36 : decode cX5_init 36 = .ok (.new 25, 3) := by decide +kernel
theorem dX5_init_39 : decode cX5_init 39 = .ok (.dup, 1) := by decide +kernel
theorem dX5_init_40 : decode cX5_init 40 = .ok (.invokespecial 27, 3) := by decide +kernel
theorem dX5_init_43 : decode cX5_init 43 = .ok (.putfield 28, 3) := by decide +kernel
theorem dX5_init_46 : decode cX5_init 46 = .ok (.aload_n 0, 1) := by decide +kernel
theorem dX5_init_47 : decode cX5_init 47 = .ok (.iconst 0, 1) := by decide +kernel
theorem dX5_init_48 : decode cX5_init 48 = .ok (.putfield 32, 3) := by decide +kernel
theorem dX5_init_51 : decode cX5_init 51 = .ok (.aload_n 0, 1) := by decide +kernel
theorem dX5_init_52 : decode cX5_init 52 = .ok (.iconst 0, 1) := by decide +kernel
theorem dX5_init_53 : decode cX5_init 53 = .ok (.putfield 36, 3) := by decide +kernel
theorem dX5_init_56 : decode cX5_init 56 = .ok (.aload_n 0, 1) := by decide +kernel
theorem dX5_init_57 : decode cX5_init 57 = .ok (.iconst 0, 1) := by decide +kernel
theorem dX5_init_58 : decode cX5_init 58 = .ok (.putfield 39, 3) := by decide +kernel
theorem dX5_init_61 : decode cX5_init 61 = .ok (.aload_n 0, 1) := by decide +kernel
theorem dX5_init_62 : decode cX5_init 62 = .ok (.iconst 0, 1) := by decide +kernel
theorem dX5_init_63 : decode cX5_init 63 = .ok (.putfield 42, 3) := by decide +kernel
theorem dX5_init_66 : decode cX5_init 66 = .ok (.aload_n 0, 1) := by decide +kernel
theorem dX5_init_67 : decode cX5_init 67 = .ok (.iconst (-1), 1) := by decide +kernel
theorem dX5_init_68 : decode cX5_init 68 = .ok (.putfield 45, 3) := by decide +kernel
theorem dX5_init_71 : decode cX5_init 71 = .ok (.aload_n 0, 1) := by decide +kernel
theorem dX5_init_72 : decode cX5_init 72 = .ok (.iconst 0, 1) := by decide +kernel
theorem dX5_init_73 : decode cX5_init 73 = .ok (.putfield 48, 3) := by decide +kernel
theorem dX5_init_76 : decode cX5_init 76 = .ok (.aload_n 0, 1) := by decide +kernel
theorem dX5_init_77 : decode cX5_init 77 = .ok (.iconst 0, 1) := by decide +kernel
theorem dX5_init_78 : decode cX5_init 78 = .ok (.putfield 51, 3) := by decide +kernel
theorem dX5_init_81 : decode cX5_init 81 = .ok (.aload_n 0, 1) := by decide +kernel
theorem dX5_init_82 : decode cX5_init 82 = .ok (.iconst 0, 1) := by decide +kernel
theorem dX5_init_83 : decode cX5_init 83 = .ok (.putfield 54, 3) := by decide +kernel
theorem dX5_init_86 : decode cX5_init 86 = .ok (.aload_n 0, 1) := by decide +kernel
theorem dX5_init_87 : decode cX5_init 87 = .ok (.iconst 0, 1) := by decide +kernel
theorem dX5_init_88 : decode cX5_init 88 = .ok (.putfield 57, 3) := by decide +kernel
theorem dX5_init_91 : decode cX5_init 91 = .ok (.return_, 1) := by decide +kernel
theorem dX5_hasRoom_0 : decode cX5_hasRoom 0 = .ok (.aload_n 0, 1) := by decide +kernel
theorem dX5_hasRoom_1 : decode cX5_hasRoom 1 = .ok (.getfield 36, 3) := by decide +kernel
theorem dX5_hasRoom_4 : decode cX5_hasRoom 4 = .ok (.bipush 20, 2) := by decide +kernel
theorem dX5_hasRoom_6 : decode cX5_hasRoom 6 = .ok (.iadd, 1) := by decide +kernel
theorem dX5_hasRoom_7 : decode cX5_hasRoom 7 = .ok (.sipush 400, 3) := by decide +kernel
theorem dX5_hasRoom_10 : decode cX5_hasRoom 10 = .ok (.if_icmp .gt 7, 3) := by decide +kernel
theorem dX5_hasRoom_13 : decode cX5_hasRoom 13 = .ok (.iconst 1, 1) := by decide +kernel
theorem dX5_hasRoom_14 : decode cX5_hasRoom 14 = .ok (.goto 4, 3) := by decide +kernel
theorem dX5_hasRoom_17 : decode cX5_hasRoom 17 = .ok (.iconst 0, 1) := by decide +kernel
theorem dX5_hasRoom_18 : decode cX5_hasRoom 18 = .ok (.ireturn, 1) := by decide +kernel
theorem dX5_append_0 : decode cX5_append 0 = .ok (.bipush 24, 2) := by decide +kernel
theorem dX5_append_2 : decode cX5_append 2 = .ok (.istore_n 2, 1) := by decide +kernel
theorem dX5_append_3 : decode cX5_append 3 = .ok (.iload_n 2, 1) := by decide +kernel
theorem dX5_append_4 : decode cX5_append 4 = .ok (.ifCond .lt 42, 3) := by decide +kernel
theorem dX5_append_7 : decode cX5_append 7 = .ok (.aload_n 0, 1) := by decide +kernel
theorem dX5_append_8 : decode cX5_append 8 = .ok (.getfield 36, 3) := by decide +kernel
theorem dX5_append_11 : decode cX5_append 11 = .ok (.sipush 400, 3) := by decide +kernel
theorem dX5_append_14 : decode cX5_append 14 = .ok (.if_icmp .ge 32, 3) := by decide +kernel
theorem dX5_append_17 : decode cX5_append 17 = .ok (.aload_n 0, 1) := by decide +kernel
theorem dX5_append_18 : decode cX5_append 18 = .ok (.getfield 11, 3) := by decide +kernel
theorem dX5_append_21 : decode cX5_append 21 = .ok (.aload_n 0, 1) := by decide +kernel
theorem dX5_append_22 : decode cX5_append 22 = .ok (.getfield 36, 3) := by decide +kernel
theorem dX5_append_25 : decode cX5_append 25 = .ok (.iload_n 1, 1) := by decide +kernel
theorem dX5_append_26 : decode cX5_append 26 = .ok (.iload_n 2, 1) := by decide +kernel
theorem dX5_append_27 : decode cX5_append 27 = .ok (.iushr, 1) := by decide +kernel
theorem dX5_append_28 : decode cX5_append 28 = .ok (.i2b, 1) := by decide +kernel
theorem dX5_append_29 : decode cX5_append 29 = .ok (.bastore, 1) := by decide +kernel
theorem dX5_append_30 : decode cX5_append 30 = .ok (.aload_n 0, 1) := by decide +kernel
theorem dX5_append_31 : decode cX5_append 31 = .ok (.dup, 1) := by decide +kernel
theorem dX5_append_32 : decode cX5_append 32 = .ok (.getfield 36, 3) := by decide +kernel
theorem dX5_append_35 : decode cX5_append 35 = .ok (.iconst 1, 1) := by decide +kernel
theorem dX5_append_36 : decode cX5_append 36 = .ok (.iadd, 1) := by decide +kernel
theorem dX5_append_37 : decode cX5_append 37 = .ok (.putfield 36, 3) := by decide +kernel
theorem dX5_append_40 : decode cX5_append 40 = .ok (.iinc 2 (-8), 3) := by decide +kernel
theorem dX5_append_43 : decode cX5_append 43 = .ok (.goto (-40), 3) := by decide +kernel
theorem dX5_append_46 : decode cX5_append 46 = .ok (.return_, 1) := by decide +kernel
theorem dX5_fedBytes_0 : decode cX5_fedBytes 0 = .ok (.aload_n 0, 1) := by decide +kernel
theorem dX5_fedBytes_1 : decode cX5_fedBytes 1 = .ok (.getfield 36, 3) := by decide +kernel
theorem dX5_fedBytes_4 : decode cX5_fedBytes 4 = .ok (.ireturn, 1) := by decide +kernel
theorem dX5_kindOfError_0 : decode cX5_kindOfError 0 = .ok (.aload_n 0, 1) := by decide +kernel
theorem dX5_kindOfError_1 : decode cX5_kindOfError 1 = .ok (.getfield 42, 3) := by decide +kernel
theorem dX5_kindOfError_4 : decode cX5_kindOfError 4 = .ok (.ireturn, 1) := by decide +kernel
theorem dX5_readGraph_0 : decode cX5_readGraph 0 = .ok (.aload_n 0, 1) := by decide +kernel
theorem dX5_readGraph_1 : decode cX5_readGraph 1 = .ok (.getfield 18, 3) := by decide +kernel
theorem dX5_readGraph_4 : decode cX5_readGraph 4 = .ok (.areturn, 1) := by decide +kernel
theorem dX5_readTarget_0 : decode cX5_readTarget 0 = .ok (.aload_n 0, 1) := by decide +kernel
theorem dX5_readTarget_1 : decode cX5_readTarget 1 = .ok (.getfield 22, 3) := by decide +kernel
theorem dX5_readTarget_4 : decode cX5_readTarget 4 = .ok (.areturn, 1) := by decide +kernel
theorem dX5_readMode_0 : decode cX5_readMode 0 = .ok (.aload_n 0, 1) := by decide +kernel
theorem dX5_readMode_1 : decode cX5_readMode 1 = .ok (.getfield 32, 3) := by decide +kernel
theorem dX5_readMode_4 : decode cX5_readMode 4 = .ok (.ireturn, 1) := by decide +kernel
theorem dX5_readText_0 : decode cX5_readText 0 = .ok (.aload_n 0, 1) := by decide +kernel
theorem dX5_readText_1 : decode cX5_readText 1 = .ok (.iload_n 1, 1) := by decide +kernel
theorem dX5_readText_2 : decode cX5_readText 2 = .ok (.aload_n 0, 1) := by decide +kernel
theorem dX5_readText_3 : decode cX5_readText 3 = .ok (.getfield 36, 3) := by decide +kernel
theorem dX5_readText_6 : decode cX5_readText 6 = .ok (.invokestatic 60, 3) := by decide +kernel
theorem dX5_readText_9 : decode cX5_readText 9 = .ok (.putfield 39, 3) := by decide +kernel
theorem dX5_readText_12 : decode cX5_readText 12 = .ok (.aload_n 0, 1) := by decide +kernel
theorem dX5_readText_13 : decode cX5_readText 13 = .ok (.iconst 0, 1) := by decide +kernel
theorem dX5_readText_14 : decode cX5_readText 14 = .ok (.putfield 36, 3) := by decide +kernel
theorem dX5_readText_17 : decode cX5_readText 17 = .ok (.aload_n 0, 1) := by decide +kernel
theorem dX5_readText_18 : decode cX5_readText 18 = .ok (.iconst 0, 1) := by decide +kernel
theorem dX5_readText_19 : decode cX5_readText 19 = .ok (.putfield 54, 3) := by decide +kernel
theorem dX5_readText_22 : decode cX5_readText 22 = .ok (.aload_n 0, 1) := by decide +kernel
theorem dX5_readText_23 : decode cX5_readText 23 = .ok (.iconst 0, 1) := by decide +kernel
theorem dX5_readText_24 : decode cX5_readText 24 = .ok (.putfield 32, 3) := by decide +kernel
theorem dX5_readText_27 : decode cX5_readText 27 = .ok (.aload_n 0, 1) := by decide +kernel
theorem dX5_readText_28 : decode cX5_readText 28 = .ok (.iconst 0, 1) := by decide +kernel
theorem dX5_readText_29 : decode cX5_readText 29 = .ok (.putfield 42, 3) := by decide +kernel
theorem dX5_readText_32 : decode cX5_readText 32 = .ok (.aload_n 0, 1) := by decide +kernel
theorem dX5_readText_33 : decode cX5_readText 33 = .ok (.iconst (-1), 1) := by decide +kernel
theorem dX5_readText_34 : decode cX5_readText 34 = .ok (.putfield 45, 3) := by decide +kernel
theorem dX5_readText_37 : decode cX5_readText 37 = .ok (.aload_n 0, 1) := by decide +kernel
theorem dX5_readText_38 : decode cX5_readText 38 = .ok (.invokevirtual 66, 3) := by decide +kernel
theorem dX5_readText_41 : decode cX5_readText 41 = .ok (.aload_n 0, 1) := by decide +kernel
theorem dX5_readText_42 : decode cX5_readText 42 = .ok (.invokevirtual 69, 3) := by decide +kernel
theorem dX5_readText_45 : decode cX5_readText 45 = .ok (.istore_n 2, 1) := by decide +kernel
theorem dX5_readText_46 : decode cX5_readText 46 = .ok (.iconst 0, 1) := by decide +kernel
theorem dX5_readText_47 : decode cX5_readText 47 = .ok (.istore_n 3, 1) := by decide +kernel
theorem dX5_readText_48 : decode cX5_readText 48 = .ok (.iload_n 3, 1) := by decide +kernel
theorem dX5_readText_49 : decode cX5_readText 49 = .ok (.sipush 400, 3) := by decide +kernel
theorem dX5_readText_52 : decode cX5_readText 52 = .ok (.if_icmp .ge 44, 3) := by decide +kernel
theorem dX5_readText_55 : decode cX5_readText 55 = .ok (.iload_n 2, 1) := by decide +kernel
theorem dX5_readText_56 : decode cX5_readText 56 = .ok (.ifCond .eq 40, 3) := by decide +kernel
theorem dX5_readText_59 : decode cX5_readText 59 = .ok (.aload_n 0, 1) := by decide +kernel
theorem dX5_readText_60 : decode cX5_readText 60 = .ok (.getfield 48, 3) := by decide +kernel
theorem dX5_readText_63 : decode cX5_readText 63 = .ok (.ifCond .eq 33, 3) := by decide +kernel
theorem dX5_readText_66 : decode cX5_readText 66 = .ok (.aload_n 0, 1) := by decide +kernel
theorem dX5_readText_67 : decode cX5_readText 67 = .ok (.invokevirtual 66, 3) := by decide +kernel
theorem dX5_readText_70 : decode cX5_readText 70 = .ok (.aload_n 0, 1) := by decide +kernel
theorem dX5_readText_71 : decode cX5_readText 71 = .ok (.getfield 48, 3) := by decide +kernel
theorem dX5_readText_74 : decode cX5_readText 74 = .ok (.ifCond .eq 10, 3) := by decide +kernel
theorem dX5_readText_77 : decode cX5_readText 77 = .ok (.aload_n 0, 1) := by decide +kernel
theorem dX5_readText_78 : decode cX5_readText 78 = .ok (.invokevirtual 73, 3) := by decide +kernel
theorem dX5_readText_81 : decode cX5_readText 81 = .ok (.ifCond .eq 7, 3) := by decide +kernel
theorem dX5_readText_84 : decode cX5_readText 84 = .ok (.iconst 1, 1) := by decide +kernel
theorem dX5_readText_85 : decode cX5_readText 85 = .ok (.goto 4, 3) := by decide +kernel
theorem dX5_readText_88 : decode cX5_readText 88 = .ok (.iconst 0, 1) := by decide +kernel
theorem dX5_readText_89 : decode cX5_readText 89 = .ok (.istore_n 2, 1) := by decide +kernel
theorem dX5_readText_90 : decode cX5_readText 90 = .ok (.iinc 3 1, 3) := by decide +kernel
theorem dX5_readText_93 : decode cX5_readText 93 = .ok (.goto (-45), 3) := by decide +kernel
theorem dX5_readText_96 : decode cX5_readText 96 = .ok (.iload_n 2, 1) := by decide +kernel
theorem dX5_readText_97 : decode cX5_readText 97 = .ok (.ireturn, 1) := by decide +kernel
theorem dX5_readFirst_0 : decode cX5_readFirst 0 = .ok (.aload_n 0, 1) := by decide +kernel
theorem dX5_readFirst_1 : decode cX5_readFirst 1 = .ok (.getfield 48, 3) := by decide +kernel
theorem dX5_readFirst_4 : decode cX5_readFirst 4 = .ok (.ifCond .ne 10, 3) := by decide +kernel
theorem dX5_readFirst_7 : decode cX5_readFirst 7 = .ok (.aload_n 0, 1) := by decide +kernel
theorem dX5_readFirst_8 : decode cX5_readFirst 8 = .ok (.iconst 1, 1) := by decide +kernel
theorem dX5_readFirst_9 : decode cX5_readFirst 9 = .ok (.invokevirtual 76, 3) := by decide +kernel
theorem dX5_readFirst_12 : decode cX5_readFirst 12 = .ok (.iconst 1, 1) := by decide +kernel
theorem dX5_readFirst_13 : decode cX5_readFirst 13 = .ok (.ireturn, 1) := by decide +kernel
theorem dX5_readFirst_14 : decode cX5_readFirst 14 = .ok (.aload_n 0, 1) := by decide +kernel
theorem dX5_readFirst_15 : decode cX5_readFirst 15 = .ok (.ldc 80, 2) := by decide +kernel
theorem dX5_readFirst_17 : decode cX5_readFirst 17 = .ok (.invokevirtual 82, 3) := by decide +kernel
theorem dX5_readFirst_20 : decode cX5_readFirst 20 = .ok (.ifCond .eq 8, 3) := by decide +kernel
theorem dX5_readFirst_23 : decode cX5_readFirst 23 = .ok (.aload_n 0, 1) := by decide +kernel
theorem dX5_readFirst_24 : decode cX5_readFirst 24 = .ok (.invokevirtual 86, 3) := by decide +kernel
theorem dX5_readFirst_27 : decode cX5_readFirst 27 = .ok (.ireturn, 1) := by decide +kernel
theorem dX5_readFirst_28 : decode cX5_readFirst 28 = .ok (.aload_n 0, 1) := by decide +kernel
theorem dX5_readFirst_29 : decode cX5_readFirst 29 = .ok (.ldc 89, 2) := by decide +kernel
theorem dX5_readFirst_31 : decode cX5_readFirst 31 = .ok (.invokevirtual 82, 3) := by decide +kernel
theorem dX5_readFirst_34 : decode cX5_readFirst 34 = .ok (.ifCond .eq 10, 3) := by decide +kernel
theorem dX5_readFirst_37 : decode cX5_readFirst 37 = .ok (.aload_n 0, 1) := by decide +kernel
theorem dX5_readFirst_38 : decode cX5_readFirst 38 = .ok (.invokevirtual 91, 3) := by decide +kernel
theorem dX5_readFirst_41 : decode cX5_readFirst 41 = .ok (.goto 8, 3) := by decide +kernel
theorem dX5_readFirst_44 : decode cX5_readFirst 44 = .ok (.aload_n 0, 1) := by decide +kernel
theorem dX5_readFirst_45 : decode cX5_readFirst 45 = .ok (.iconst 2, 1) := by decide +kernel
theorem dX5_readFirst_46 : decode cX5_readFirst 46 = .ok (.invokevirtual 94, 3) := by decide +kernel
theorem dX5_readFirst_49 : decode cX5_readFirst 49 = .ok (.ireturn, 1) := by decide +kernel
theorem dX5_readOther_0 : decode cX5_readOther 0 = .ok (.aload_n 0, 1) := by decide +kernel
theorem dX5_readOther_1 : decode cX5_readOther 1 = .ok (.ldc 98, 2) := by decide +kernel
theorem dX5_readOther_3 : decode cX5_readOther 3 = .ok (.invokevirtual 82, 3) := by decide +kernel
theorem dX5_readOther_6 : decode cX5_readOther 6 = .ok (.ifCond .eq 12, 3) := by decide +kernel
theorem dX5_readOther_9 : decode cX5_readOther 9 = .ok (.aload_n 0, 1) := by decide +kernel
theorem dX5_readOther_10 : decode cX5_readOther 10 = .ok (.aload_n 0, 1) := by decide +kernel
theorem dX5_readOther_11 : decode cX5_readOther 11 = .ok (.getfield 18, 3) := by decide +kernel
theorem dX5_readOther_14 : decode cX5_readOther 14 = .ok (.invokevirtual 100, 3) := by decide +kernel
theorem dX5_readOther_17 : decode cX5_readOther 17 = .ok (.ireturn, 1) := by decide +kernel
theorem dX5_readOther_18 : decode cX5_readOther 18 = .ok (.aload_n 0, 1) := by decide +kernel
theorem dX5_readOther_19 : decode cX5_readOther 19 = .ok (.ldc 104, 2) := by decide +kernel
theorem dX5_readOther_21 : decode cX5_readOther 21 = .ok (.invokevirtual 82, 3) := by decide +kernel
theorem dX5_readOther_24 : decode cX5_readOther 24 = .ok (.ifCond .eq 12, 3) := by decide +kernel
theorem dX5_readOther_27 : decode cX5_readOther 27 = .ok (.aload_n 0, 1) := by decide +kernel
theorem dX5_readOther_28 : decode cX5_readOther 28 = .ok (.aload_n 0, 1) := by decide +kernel
theorem dX5_readOther_29 : decode cX5_readOther 29 = .ok (.getfield 22, 3) := by decide +kernel
theorem dX5_readOther_32 : decode cX5_readOther 32 = .ok (.invokevirtual 100, 3) := by decide +kernel
theorem dX5_readOther_35 : decode cX5_readOther 35 = .ok (.ireturn, 1) := by decide +kernel
theorem dX5_readOther_36 : decode cX5_readOther 36 = .ok (.aload_n 0, 1) := by decide +kernel
theorem dX5_readOther_37 : decode cX5_readOther 37 = .ok (.ldc 105, 2) := by decide +kernel
theorem dX5_readOther_39 : decode cX5_readOther 39 = .ok (.invokevirtual 82, 3) := by decide +kernel
theorem dX5_readOther_42 : decode cX5_readOther 42 = .ok (.ifCond .eq 10, 3) := by decide +kernel
theorem dX5_readOther_45 : decode cX5_readOther 45 = .ok (.aload_n 0, 1) := by decide +kernel
theorem dX5_readOther_46 : decode cX5_readOther 46 = .ok (.invokevirtual 106, 3) := by decide +kernel
theorem dX5_readOther_49 : decode cX5_readOther 49 = .ok (.goto 8, 3) := by decide +kernel
theorem dX5_readOther_52 : decode cX5_readOther 52 = .ok (.aload_n 0, 1) := by decide +kernel
theorem dX5_readOther_53 : decode cX5_readOther 53 = .ok (.iconst 2, 1) := by decide +kernel
theorem dX5_readOther_54 : decode cX5_readOther 54 = .ok (.invokevirtual 94, 3) := by decide +kernel
theorem dX5_readOther_57 : decode cX5_readOther 57 = .ok (.ireturn, 1) := by decide +kernel
theorem dX5_readVertices_0 : decode cX5_readVertices 0 = .ok (.aload_n 0, 1) := by decide +kernel
theorem dX5_readVertices_1 : decode cX5_readVertices 1 = .ok (.invokevirtual 66, 3) := by decide +kernel
theorem dX5_readVertices_4 : decode cX5_readVertices 4 = .ok (.aload_n 0, 1) := by decide +kernel
theorem dX5_readVertices_5 : decode cX5_readVertices 5 = .ok (.iconst 1, 1) := by decide +kernel
theorem dX5_readVertices_6 : decode cX5_readVertices 6 = .ok (.bipush 8, 2) := by decide +kernel
theorem dX5_readVertices_8 : decode cX5_readVertices 8 = .ok (.invokevirtual 109, 3) := by decide +kernel
theorem dX5_readVertices_11 : decode cX5_readVertices 11 = .ok (.ifCond .ne 5, 3) := by decide +kernel
theorem dX5_readVertices_14 : decode cX5_readVertices 14 = .ok (.iconst 0, 1) := by decide +kernel
theorem dX5_readVertices_15 : decode cX5_readVertices 15 = .ok (.ireturn, 1) := by decide +kernel
theorem dX5_readVertices_16 : decode cX5_readVertices 16 = .ok (.aload_n 0, 1) := by decide +kernel
theorem dX5_readVertices_17 : decode cX5_readVertices 17 = .ok (.aload_n 0, 1) := by decide +kernel
theorem dX5_readVertices_18 : decode cX5_readVertices 18 = .ok (.getfield 57, 3) := by decide +kernel
theorem dX5_readVertices_21 : decode cX5_readVertices 21 = .ok (.invokevirtual 76, 3) := by decide +kernel
theorem dX5_readVertices_24 : decode cX5_readVertices 24 = .ok (.aload_n 0, 1) := by decide +kernel
theorem dX5_readVertices_25 : decode cX5_readVertices 25 = .ok (.invokevirtual 66, 3) := by decide +kernel
theorem dX5_readVertices_28 : decode cX5_readVertices 28 = .ok (.aload_n 0, 1) := by decide +kernel
theorem dX5_readVertices_29 : decode cX5_readVertices 29 = .ok (.invokevirtual 113, 3) := by decide +kernel
theorem dX5_readVertices_32 : decode cX5_readVertices 32 = .ok (.ireturn, 1) := by decide +kernel
theorem dX5_readDegrees_0 : decode cX5_readDegrees 0 = .ok (.aload_n 0, 1) := by decide +kernel
theorem dX5_readDegrees_1 : decode cX5_readDegrees 1 = .ok (.invokevirtual 66, 3) := by decide +kernel
theorem dX5_readDegrees_4 : decode cX5_readDegrees 4 = .ok (.aload_n 0, 1) := by decide +kernel
theorem dX5_readDegrees_5 : decode cX5_readDegrees 5 = .ok (.getfield 28, 3) := by decide +kernel
theorem dX5_readDegrees_8 : decode cX5_readDegrees 8 = .ok (.invokevirtual 116, 3) := by decide +kernel
theorem dX5_readDegrees_11 : decode cX5_readDegrees 11 = .ok (.iconst 0, 1) := by decide +kernel
theorem dX5_readDegrees_12 : decode cX5_readDegrees 12 = .ok (.istore_n 1, 1) := by decide +kernel
theorem dX5_readDegrees_13 : decode cX5_readDegrees 13 = .ok (.iload_n 1, 1) := by decide +kernel
theorem dX5_readDegrees_14 : decode cX5_readDegrees 14 = .ok (.bipush 8, 2) := by decide +kernel
theorem dX5_readDegrees_16 : decode cX5_readDegrees 16 = .ok (.if_icmp .gt 64, 3) := by decide +kernel
theorem dX5_readDegrees_19 : decode cX5_readDegrees 19 = .ok (.iload_n 1, 1) := by decide +kernel
theorem dX5_readDegrees_20 : decode cX5_readDegrees 20 = .ok (.ifCond .eq 11, 3) := by decide +kernel
theorem dX5_readDegrees_23 : decode cX5_readDegrees 23 = .ok (.aload_n 0, 1) := by decide +kernel
theorem dX5_readDegrees_24 : decode cX5_readDegrees 24 = .ok (.getfield 48, 3) := by decide +kernel
theorem dX5_readDegrees_27 : decode cX5_readDegrees 27 = .ok (.iconst 2, 1) := by decide +kernel
theorem dX5_readDegrees_28 : decode cX5_readDegrees 28 = .ok (.if_icmp .ne 52, 3) := by decide +kernel
theorem dX5_readDegrees_31 : decode cX5_readDegrees 31 = .ok (.aload_n 0, 1) := by decide +kernel
theorem dX5_readDegrees_32 : decode cX5_readDegrees 32 = .ok (.iconst 0, 1) := by decide +kernel
theorem dX5_readDegrees_33 : decode cX5_readDegrees 33 = .ok (.bipush 32, 2) := by decide +kernel
theorem dX5_readDegrees_35 : decode cX5_readDegrees 35 = .ok (.invokevirtual 109, 3) := by decide +kernel
theorem dX5_readDegrees_38 : decode cX5_readDegrees 38 = .ok (.ifCond .ne 5, 3) := by decide +kernel
theorem dX5_readDegrees_41 : decode cX5_readDegrees 41 = .ok (.iconst 0, 1) := by decide +kernel
theorem dX5_readDegrees_42 : decode cX5_readDegrees 42 = .ok (.ireturn, 1) := by decide +kernel
theorem dX5_readDegrees_43 : decode cX5_readDegrees 43 = .ok (.aload_n 0, 1) := by decide +kernel
theorem dX5_readDegrees_44 : decode cX5_readDegrees 44 = .ok (.getfield 28, 3) := by decide +kernel
theorem dX5_readDegrees_47 : decode cX5_readDegrees 47 = .ok (.invokevirtual 119, 3) := by decide +kernel
theorem dX5_readDegrees_50 : decode cX5_readDegrees 50 = .ok (.ifCond .eq 9, 3) := by decide +kernel
theorem dX5_readDegrees_53 : decode cX5_readDegrees 53 = .ok (.aload_n 0, 1) := by decide +kernel
theorem dX5_readDegrees_54 : decode cX5_readDegrees 54 = .ok (.iconst 5, 1) := by decide +kernel
theorem dX5_readDegrees_55 : decode cX5_readDegrees 55 = .ok (.invokevirtual 94, 3) := by decide +kernel
theorem dX5_readDegrees_58 : decode cX5_readDegrees 58 = .ok (.ireturn, 1) := by decide +kernel
theorem dX5_readDegrees_59 : decode cX5_readDegrees 59 = .ok (.aload_n 0, 1) := by decide +kernel
theorem dX5_readDegrees_60 : decode cX5_readDegrees 60 = .ok (.getfield 28, 3) := by decide +kernel
theorem dX5_readDegrees_63 : decode cX5_readDegrees 63 = .ok (.aload_n 0, 1) := by decide +kernel
theorem dX5_readDegrees_64 : decode cX5_readDegrees 64 = .ok (.getfield 57, 3) := by decide +kernel
theorem dX5_readDegrees_67 : decode cX5_readDegrees 67 = .ok (.invokevirtual 122, 3) := by decide +kernel
theorem dX5_readDegrees_70 : decode cX5_readDegrees 70 = .ok (.aload_n 0, 1) := by decide +kernel
theorem dX5_readDegrees_71 : decode cX5_readDegrees 71 = .ok (.invokevirtual 66, 3) := by decide +kernel
theorem dX5_readDegrees_74 : decode cX5_readDegrees 74 = .ok (.iinc 1 1, 3) := by decide +kernel
theorem dX5_readDegrees_77 : decode cX5_readDegrees 77 = .ok (.goto (-64), 3) := by decide +kernel
theorem dX5_readDegrees_80 : decode cX5_readDegrees 80 = .ok (.aload_n 0, 1) := by decide +kernel
theorem dX5_readDegrees_81 : decode cX5_readDegrees 81 = .ok (.invokevirtual 113, 3) := by decide +kernel
theorem dX5_readDegrees_84 : decode cX5_readDegrees 84 = .ok (.ifCond .ne 5, 3) := by decide +kernel
theorem dX5_readDegrees_87 : decode cX5_readDegrees 87 = .ok (.iconst 0, 1) := by decide +kernel
theorem dX5_readDegrees_88 : decode cX5_readDegrees 88 = .ok (.ireturn, 1) := by decide +kernel
theorem dX5_readDegrees_89 : decode cX5_readDegrees 89 = .ok (.aload_n 0, 1) := by decide +kernel
theorem dX5_readDegrees_90 : decode cX5_readDegrees 90 = .ok (.getfield 28, 3) := by decide +kernel
theorem dX5_readDegrees_93 : decode cX5_readDegrees 93 = .ok (.invokevirtual 125, 3) := by decide +kernel
theorem dX5_readDegrees_96 : decode cX5_readDegrees 96 = .ok (.iconst 2, 1) := by decide +kernel
theorem dX5_readDegrees_97 : decode cX5_readDegrees 97 = .ok (.irem, 1) := by decide +kernel
theorem dX5_readDegrees_98 : decode cX5_readDegrees 98 = .ok (.ifCond .ne 15, 3) := by decide +kernel
theorem dX5_readDegrees_101 : decode cX5_readDegrees 101 = .ok (.aload_n 0, 1) := by decide +kernel
theorem dX5_readDegrees_102 : decode cX5_readDegrees 102 = .ok (.getfield 28, 3) := by decide +kernel
theorem dX5_readDegrees_105 : decode cX5_readDegrees 105 = .ok (.invokevirtual 125, 3) := by decide +kernel
theorem dX5_readDegrees_108 : decode cX5_readDegrees 108 = .ok (.bipush 32, 2) := by decide +kernel
theorem dX5_readDegrees_110 : decode cX5_readDegrees 110 = .ok (.if_icmp .le 9, 3) := by decide +kernel
theorem dX5_readDegrees_113 : decode cX5_readDegrees 113 = .ok (.aload_n 0, 1) := by decide +kernel
theorem dX5_readDegrees_114 : decode cX5_readDegrees 114 = .ok (.iconst 4, 1) := by decide +kernel
theorem dX5_readDegrees_115 : decode cX5_readDegrees 115 = .ok (.invokevirtual 94, 3) := by decide +kernel
theorem dX5_readDegrees_118 : decode cX5_readDegrees 118 = .ok (.ireturn, 1) := by decide +kernel
theorem dX5_readDegrees_119 : decode cX5_readDegrees 119 = .ok (.aload_n 0, 1) := by decide +kernel
theorem dX5_readDegrees_120 : decode cX5_readDegrees 120 = .ok (.aload_n 0, 1) := by decide +kernel
theorem dX5_readDegrees_121 : decode cX5_readDegrees 121 = .ok (.getfield 28, 3) := by decide +kernel
theorem dX5_readDegrees_124 : decode cX5_readDegrees 124 = .ok (.invokevirtual 129, 3) := by decide +kernel
theorem dX5_readDegrees_127 : decode cX5_readDegrees 127 = .ok (.invokevirtual 76, 3) := by decide +kernel
theorem dX5_readDegrees_130 : decode cX5_readDegrees 130 = .ok (.aload_n 0, 1) := by decide +kernel
theorem dX5_readDegrees_131 : decode cX5_readDegrees 131 = .ok (.getfield 28, 3) := by decide +kernel
theorem dX5_readDegrees_134 : decode cX5_readDegrees 134 = .ok (.aload_n 0, 1) := by decide +kernel
theorem dX5_readDegrees_135 : decode cX5_readDegrees 135 = .ok (.getfield 18, 3) := by decide +kernel
theorem dX5_readDegrees_138 : decode cX5_readDegrees 138 = .ok (.iconst 0, 1) := by decide +kernel
theorem dX5_readDegrees_139 : decode cX5_readDegrees 139 = .ok (.invokevirtual 131, 3) := by decide +kernel
theorem dX5_readDegrees_142 : decode cX5_readDegrees 142 = .ok (.iconst 1, 1) := by decide +kernel
theorem dX5_readDegrees_143 : decode cX5_readDegrees 143 = .ok (.ireturn, 1) := by decide +kernel
theorem dX5_readEdge_0 : decode cX5_readEdge 0 = .ok (.aload_n 0, 1) := by decide +kernel
theorem dX5_readEdge_1 : decode cX5_readEdge 1 = .ok (.invokevirtual 66, 3) := by decide +kernel
theorem dX5_readEdge_4 : decode cX5_readEdge 4 = .ok (.aload_n 0, 1) := by decide +kernel
theorem dX5_readEdge_5 : decode cX5_readEdge 5 = .ok (.iconst 0, 1) := by decide +kernel
theorem dX5_readEdge_6 : decode cX5_readEdge 6 = .ok (.aload_n 0, 1) := by decide +kernel
theorem dX5_readEdge_7 : decode cX5_readEdge 7 = .ok (.getfield 18, 3) := by decide +kernel
theorem dX5_readEdge_10 : decode cX5_readEdge 10 = .ok (.invokevirtual 135, 3) := by decide +kernel
theorem dX5_readEdge_13 : decode cX5_readEdge 13 = .ok (.iconst 1, 1) := by decide +kernel
theorem dX5_readEdge_14 : decode cX5_readEdge 14 = .ok (.isub, 1) := by decide +kernel
theorem dX5_readEdge_15 : decode cX5_readEdge 15 = .ok (.invokevirtual 109, 3) := by decide +kernel
theorem dX5_readEdge_18 : decode cX5_readEdge 18 = .ok (.ifCond .ne 5, 3) := by decide +kernel
theorem dX5_readEdge_21 : decode cX5_readEdge 21 = .ok (.iconst 0, 1) := by decide +kernel
theorem dX5_readEdge_22 : decode cX5_readEdge 22 = .ok (.ireturn, 1) := by decide +kernel
theorem dX5_readEdge_23 : decode cX5_readEdge 23 = .ok (.aload_n 0, 1) := by decide +kernel
theorem dX5_readEdge_24 : decode cX5_readEdge 24 = .ok (.getfield 57, 3) := by decide +kernel
theorem dX5_readEdge_27 : decode cX5_readEdge 27 = .ok (.istore_n 2, 1) := by decide +kernel
theorem dX5_readEdge_28 : decode cX5_readEdge 28 = .ok (.aload_n 0, 1) := by decide +kernel
theorem dX5_readEdge_29 : decode cX5_readEdge 29 = .ok (.invokevirtual 66, 3) := by decide +kernel
theorem dX5_readEdge_32 : decode cX5_readEdge 32 = .ok (.aload_n 0, 1) := by decide +kernel
theorem dX5_readEdge_33 : decode cX5_readEdge 33 = .ok (.iconst 0, 1) := by decide +kernel
theorem dX5_readEdge_34 : decode cX5_readEdge 34 = .ok (.aload_n 0, 1) := by decide +kernel
theorem dX5_readEdge_35 : decode cX5_readEdge 35 = .ok (.getfield 18, 3) := by decide +kernel
theorem dX5_readEdge_38 : decode cX5_readEdge 38 = .ok (.invokevirtual 135, 3) := by decide +kernel
theorem dX5_readEdge_41 : decode cX5_readEdge 41 = .ok (.iconst 1, 1) := by decide +kernel
theorem dX5_readEdge_42 : decode cX5_readEdge 42 = .ok (.isub, 1) := by decide +kernel
theorem dX5_readEdge_43 : decode cX5_readEdge 43 = .ok (.invokevirtual 109, 3) := by decide +kernel
theorem dX5_readEdge_46 : decode cX5_readEdge 46 = .ok (.ifCond .ne 5, 3) := by decide +kernel
theorem dX5_readEdge_49 : decode cX5_readEdge 49 = .ok (.iconst 0, 1) := by decide +kernel
theorem dX5_readEdge_50 : decode cX5_readEdge 50 = .ok (.ireturn, 1) := by decide +kernel
theorem dX5_readEdge_51 : decode cX5_readEdge 51 = .ok (.aload_n 0, 1) := by decide +kernel
theorem dX5_readEdge_52 : decode cX5_readEdge 52 = .ok (.getfield 57, 3) := by decide +kernel
theorem dX5_readEdge_55 : decode cX5_readEdge 55 = .ok (.istore_n 3, 1) := by decide +kernel
theorem dX5_readEdge_56 : decode cX5_readEdge 56 = .ok (.aload_n 0, 1) := by decide +kernel
theorem dX5_readEdge_57 : decode cX5_readEdge 57 = .ok (.invokevirtual 66, 3) := by decide +kernel
theorem dX5_readEdge_60 : decode cX5_readEdge 60 = .ok (.aload_n 0, 1) := by decide +kernel
theorem dX5_readEdge_61 : decode cX5_readEdge 61 = .ok (.getfield 48, 3) := by decide +kernel
theorem dX5_readEdge_64 : decode cX5_readEdge 64 = .ok (.iconst 2, 1) := by decide +kernel
theorem dX5_readEdge_65 : decode cX5_readEdge 65 = .ok (.if_icmp .ne 7, 3) := by decide +kernel
theorem dX5_readEdge_68 : decode cX5_readEdge 68 = .ok (.iconst 1, 1) := by decide +kernel
theorem dX5_readEdge_69 : decode cX5_readEdge 69 = .ok (.goto 4, 3) := by decide +kernel
theorem dX5_readEdge_72 : decode cX5_readEdge 72 = .ok (.iconst 0, 1) := by decide +kernel
theorem dX5_readEdge_73 : decode cX5_readEdge 73 = .ok (.istore 4, 2) := by decide +kernel
theorem dX5_readEdge_75 : decode cX5_readEdge 75 = .ok (.iload 4, 2) := by decide +kernel
theorem dX5_readEdge_77 : decode cX5_readEdge 77 = .ok (.ifCond .eq 16, 3) := by decide +kernel
theorem dX5_readEdge_80 : decode cX5_readEdge 80 = .ok (.aload_n 0, 1) := by decide +kernel
theorem dX5_readEdge_81 : decode cX5_readEdge 81 = .ok (.iconst 1, 1) := by decide +kernel
theorem dX5_readEdge_82 : decode cX5_readEdge 82 = .ok (.bipush 9, 2) := by decide +kernel
theorem dX5_readEdge_84 : decode cX5_readEdge 84 = .ok (.invokevirtual 109, 3) := by decide +kernel
theorem dX5_readEdge_87 : decode cX5_readEdge 87 = .ok (.ifCond .ne 15, 3) := by decide +kernel
theorem dX5_readEdge_90 : decode cX5_readEdge 90 = .ok (.goto 10, 3) := by decide +kernel
theorem dX5_readEdge_93 : decode cX5_readEdge 93 = .ok (.aload_n 0, 1) := by decide +kernel
theorem dX5_readEdge_94 : decode cX5_readEdge 94 = .ok (.invokevirtual 113, 3) := by decide +kernel
theorem dX5_readEdge_97 : decode cX5_readEdge 97 = .ok (.ifCond .ne 5, 3) := by decide +kernel
theorem dX5_readEdge_100 : decode cX5_readEdge 100 = .ok (.iconst 0, 1) := by decide +kernel
theorem dX5_readEdge_101 : decode cX5_readEdge 101 = .ok (.ireturn, 1) := by decide +kernel
theorem dX5_readEdge_102 : decode cX5_readEdge 102 = .ok (.iload 4, 2) := by decide +kernel
theorem dX5_readEdge_104 : decode cX5_readEdge 104 = .ok (.ifCond .eq 10, 3) := by decide +kernel
theorem dX5_readEdge_107 : decode cX5_readEdge 107 = .ok (.aload_n 0, 1) := by decide +kernel
theorem dX5_readEdge_108 : decode cX5_readEdge 108 = .ok (.getfield 57, 3) := by decide +kernel
theorem dX5_readEdge_111 : decode cX5_readEdge 111 = .ok (.goto 4, 3) := by decide +kernel
theorem dX5_readEdge_114 : decode cX5_readEdge 114 = .ok (.iconst 1, 1) := by decide +kernel
theorem dX5_readEdge_115 : decode cX5_readEdge 115 = .ok (.istore 5, 2) := by decide +kernel
theorem dX5_readEdge_117 : decode cX5_readEdge 117 = .ok (.aload_n 1, 1) := by decide +kernel
theorem dX5_readEdge_118 : decode cX5_readEdge 118 = .ok (.invokevirtual 138, 3) := by decide +kernel
theorem dX5_readEdge_121 : decode cX5_readEdge 121 = .ok (.iload 5, 2) := by decide +kernel
theorem dX5_readEdge_123 : decode cX5_readEdge 123 = .ok (.iadd, 1) := by decide +kernel
theorem dX5_readEdge_124 : decode cX5_readEdge 124 = .ok (.bipush 16, 2) := by decide +kernel
theorem dX5_readEdge_126 : decode cX5_readEdge 126 = .ok (.if_icmp .le 9, 3) := by decide +kernel
theorem dX5_readEdge_129 : decode cX5_readEdge 129 = .ok (.aload_n 0, 1) := by decide +kernel
theorem dX5_readEdge_130 : decode cX5_readEdge 130 = .ok (.iconst 5, 1) := by decide +kernel
theorem dX5_readEdge_131 : decode cX5_readEdge 131 = .ok (.invokevirtual 94, 3) := by decide +kernel
theorem dX5_readEdge_134 : decode cX5_readEdge 134 = .ok (.ireturn, 1) := by decide +kernel
theorem dX5_readEdge_135 : decode cX5_readEdge 135 = .ok (.aload_n 1, 1) := by decide +kernel
theorem dX5_readEdge_136 : decode cX5_readEdge 136 = .ok (.iload_n 2, 1) := by decide +kernel
theorem dX5_readEdge_137 : decode cX5_readEdge 137 = .ok (.iload_n 3, 1) := by decide +kernel
theorem dX5_readEdge_138 : decode cX5_readEdge 138 = .ok (.iload 5, 2) := by decide +kernel
theorem dX5_readEdge_140 : decode cX5_readEdge 140 = .ok (.invokevirtual 141, 3) := by decide +kernel
theorem dX5_readEdge_143 : decode cX5_readEdge 143 = .ok (.iload 4, 2) := by decide +kernel
theorem dX5_readEdge_145 : decode cX5_readEdge 145 = .ok (.ifCond .eq 7, 3) := by decide +kernel
theorem dX5_readEdge_148 : decode cX5_readEdge 148 = .ok (.aload_n 0, 1) := by decide +kernel
theorem dX5_readEdge_149 : decode cX5_readEdge 149 = .ok (.invokevirtual 66, 3) := by decide +kernel
theorem dX5_readEdge_152 : decode cX5_readEdge 152 = .ok (.aload_n 0, 1) := by decide +kernel
theorem dX5_readEdge_153 : decode cX5_readEdge 153 = .ok (.invokevirtual 113, 3) := by decide +kernel
theorem dX5_readEdge_156 : decode cX5_readEdge 156 = .ok (.ireturn, 1) := by decide +kernel
theorem dX5_readModeNumber_0 : decode cX5_readModeNumber 0 = .ok (.aload_n 0, 1) := by decide +kernel
theorem dX5_readModeNumber_1 : decode cX5_readModeNumber 1 = .ok (.invokevirtual 66, 3) := by decide +kernel
theorem dX5_readModeNumber_4 : decode cX5_readModeNumber 4 = .ok (.aload_n 0, 1) := by decide +kernel
theorem dX5_readModeNumber_5 : decode cX5_readModeNumber 5 = .ok (.iconst 0, 1) := by decide +kernel
theorem dX5_readModeNumber_6 : decode cX5_readModeNumber 6 = .ok (.iconst 2, 1) := by decide +kernel
theorem dX5_readModeNumber_7 : decode cX5_readModeNumber 7 = .ok (.invokevirtual 109, 3) := by decide +kernel
theorem dX5_readModeNumber_10 : decode cX5_readModeNumber 10 = .ok (.ifCond .ne 5, 3) := by decide +kernel
theorem dX5_readModeNumber_13 : decode cX5_readModeNumber 13 = .ok (.iconst 0, 1) := by decide +kernel
theorem dX5_readModeNumber_14 : decode cX5_readModeNumber 14 = .ok (.ireturn, 1) := by decide +kernel
theorem dX5_readModeNumber_15 : decode cX5_readModeNumber 15 = .ok (.aload_n 0, 1) := by decide +kernel
theorem dX5_readModeNumber_16 : decode cX5_readModeNumber 16 = .ok (.aload_n 0, 1) := by decide +kernel
theorem dX5_readModeNumber_17 : decode cX5_readModeNumber 17 = .ok (.getfield 57, 3) := by decide +kernel
theorem dX5_readModeNumber_20 : decode cX5_readModeNumber 20 = .ok (.putfield 32, 3) := by decide +kernel
theorem dX5_readModeNumber_23 : decode cX5_readModeNumber 23 = .ok (.aload_n 0, 1) := by decide +kernel
theorem dX5_readModeNumber_24 : decode cX5_readModeNumber 24 = .ok (.invokevirtual 66, 3) := by decide +kernel
theorem dX5_readModeNumber_27 : decode cX5_readModeNumber 27 = .ok (.aload_n 0, 1) := by decide +kernel
theorem dX5_readModeNumber_28 : decode cX5_readModeNumber 28 = .ok (.invokevirtual 113, 3) := by decide +kernel
theorem dX5_readModeNumber_31 : decode cX5_readModeNumber 31 = .ok (.ireturn, 1) := by decide +kernel
theorem dX5_begin_0 : decode cX5_begin 0 = .ok (.aload_n 0, 1) := by decide +kernel
theorem dX5_begin_1 : decode cX5_begin 1 = .ok (.getfield 18, 3) := by decide +kernel
theorem dX5_begin_4 : decode cX5_begin 4 = .ok (.iload_n 1, 1) := by decide +kernel
theorem dX5_begin_5 : decode cX5_begin 5 = .ok (.invokevirtual 145, 3) := by decide +kernel
theorem dX5_begin_8 : decode cX5_begin 8 = .ok (.aload_n 0, 1) := by decide +kernel
theorem dX5_begin_9 : decode cX5_begin 9 = .ok (.getfield 22, 3) := by decide +kernel
theorem dX5_begin_12 : decode cX5_begin 12 = .ok (.iload_n 1, 1) := by decide +kernel
theorem dX5_begin_13 : decode cX5_begin 13 = .ok (.invokevirtual 145, 3) := by decide +kernel
theorem dX5_begin_16 : decode cX5_begin 16 = .ok (.return_, 1) := by decide +kernel
theorem dX5_expectNumber_0 : decode cX5_expectNumber 0 = .ok (.aload_n 0, 1) := by decide +kernel
theorem dX5_expectNumber_1 : decode cX5_expectNumber 1 = .ok (.getfield 48, 3) := by decide +kernel
theorem dX5_expectNumber_4 : decode cX5_expectNumber 4 = .ok (.iconst 2, 1) := by decide +kernel
theorem dX5_expectNumber_5 : decode cX5_expectNumber 5 = .ok (.if_icmp .eq 9, 3) := by decide +kernel
theorem dX5_expectNumber_8 : decode cX5_expectNumber 8 = .ok (.aload_n 0, 1) := by decide +kernel
theorem dX5_expectNumber_9 : decode cX5_expectNumber 9 = .ok (.iconst 2, 1) := by decide +kernel
theorem dX5_expectNumber_10 : decode cX5_expectNumber 10 = .ok (.invokevirtual 94, 3) := by decide +kernel
theorem dX5_expectNumber_13 : decode cX5_expectNumber 13 = .ok (.ireturn, 1) := by decide +kernel
theorem dX5_expectNumber_14 : decode cX5_expectNumber 14 = .ok (.aload_n 0, 1) := by decide +kernel
theorem dX5_expectNumber_15 : decode cX5_expectNumber 15 = .ok (.getfield 57, 3) := by decide +kernel
theorem dX5_expectNumber_18 : decode cX5_expectNumber 18 = .ok (.iload_n 1, 1) := by decide +kernel
theorem dX5_expectNumber_19 : decode cX5_expectNumber 19 = .ok (.if_icmp .lt 11, 3) := by decide +kernel
theorem dX5_expectNumber_22 : decode cX5_expectNumber 22 = .ok (.aload_n 0, 1) := by decide +kernel
theorem dX5_expectNumber_23 : decode cX5_expectNumber 23 = .ok (.getfield 57, 3) := by decide +kernel
theorem dX5_expectNumber_26 : decode cX5_expectNumber 26 = .ok (.iload_n 2, 1) := by decide +kernel
theorem dX5_expectNumber_27 : decode cX5_expectNumber 27 = .ok (.if_icmp .le 11, 3) := by decide +kernel
theorem dX5_expectNumber_30 : decode cX5_expectNumber 30 = .ok (.aload_n 0, 1) := by decide +kernel
theorem dX5_expectNumber_31 : decode cX5_expectNumber 31 = .ok (.iconst 3, 1) := by decide +kernel
theorem dX5_expectNumber_32 : decode cX5_expectNumber 32 = .ok (.invokevirtual 94, 3) := by decide +kernel
theorem dX5_expectNumber_35 : decode cX5_expectNumber 35 = .ok (.ifCond .eq 7, 3) := by decide +kernel
theorem dX5_expectNumber_38 : decode cX5_expectNumber 38 = .ok (.iconst 1, 1) := by decide +kernel
theorem dX5_expectNumber_39 : decode cX5_expectNumber 39 = .ok (.goto 4, 3) := by decide +kernel
theorem dX5_expectNumber_42 : decode cX5_expectNumber 42 = .ok (.iconst 0, 1) := by decide +kernel
theorem dX5_expectNumber_43 : decode cX5_expectNumber 43 = .ok (.ireturn, 1) := by decide +kernel
theorem dX5_expectSemicolon_0 : decode cX5_expectSemicolon 0 = .ok (.aload_n 0, 1) := by decide +kernel
theorem dX5_expectSemicolon_1 : decode cX5_expectSemicolon 1 = .ok (.getfield 48, 3) := by decide +kernel
theorem dX5_expectSemicolon_4 : decode cX5_expectSemicolon 4 = .ok (.iconst 3, 1) := by decide +kernel
theorem dX5_expectSemicolon_5 : decode cX5_expectSemicolon 5 = .ok (.if_icmp .eq 11, 3) := by decide +kernel
theorem dX5_expectSemicolon_8 : decode cX5_expectSemicolon 8 = .ok (.aload_n 0, 1) := by decide +kernel
theorem dX5_expectSemicolon_9 : decode cX5_expectSemicolon 9 = .ok (.iconst 2, 1) := by decide +kernel
theorem dX5_expectSemicolon_10 : decode cX5_expectSemicolon 10 = .ok (.invokevirtual 94, 3) := by decide +kernel
theorem dX5_expectSemicolon_13 : decode cX5_expectSemicolon 13 = .ok (.ifCond .eq 7, 3) := by decide +kernel
theorem dX5_expectSemicolon_16 : decode cX5_expectSemicolon 16 = .ok (.iconst 1, 1) := by decide +kernel
theorem dX5_expectSemicolon_17 : decode cX5_expectSemicolon 17 = .ok (.goto 4, 3) := by decide +kernel
theorem dX5_expectSemicolon_20 : decode cX5_expectSemicolon 20 = .ok (.iconst 0, 1) := by decide +kernel
theorem dX5_expectSemicolon_21 : decode cX5_expectSemicolon 21 = .ok (.ireturn, 1) := by decide +kernel
theorem dX5_fail_0 : decode cX5_fail 0 = .ok (.aload_n 0, 1) := by decide +kernel
theorem dX5_fail_1 : decode cX5_fail 1 = .ok (.aload_n 0, 1) := by decide +kernel
theorem dX5_fail_2 : decode cX5_fail 2 = .ok (.getfield 48, 3) := by decide +kernel
theorem dX5_fail_5 : decode cX5_fail 5 = .ok (.iconst 4, 1) := by decide +kernel
theorem dX5_fail_6 : decode cX5_fail 6 = .ok (.if_icmp .ne 7, 3) := by decide +kernel
theorem dX5_fail_9 : decode cX5_fail 9 = .ok (.iconst 1, 1) := by decide +kernel
theorem dX5_fail_10 : decode cX5_fail 10 = .ok (.goto 4, 3) := by decide +kernel
theorem dX5_fail_13 : decode cX5_fail 13 = .ok (.iload_n 1, 1) := by decide +kernel
theorem dX5_fail_14 : decode cX5_fail 14 = .ok (.putfield 42, 3) := by decide +kernel
theorem dX5_fail_17 : decode cX5_fail 17 = .ok (.aload_n 0, 1) := by decide +kernel
theorem dX5_fail_18 : decode cX5_fail 18 = .ok (.aload_n 0, 1) := by decide +kernel
theorem dX5_fail_19 : decode cX5_fail 19 = .ok (.getfield 51, 3) := by decide +kernel
theorem dX5_fail_22 : decode cX5_fail 22 = .ok (.putfield 45, 3) := by decide +kernel
theorem dX5_fail_25 : decode cX5_fail 25 = .ok (.iconst 0, 1) := by decide +kernel
theorem dX5_fail_26 : decode cX5_fail 26 = .ok (.ireturn, 1) := by decide +kernel
theorem dX5_isWord_0 : decode cX5_isWord 0 = .ok (.aload_n 0, 1) := by decide +kernel
theorem dX5_isWord_1 : decode cX5_isWord 1 = .ok (.getfield 48, 3) := by decide +kernel
theorem dX5_isWord_4 : decode cX5_isWord 4 = .ok (.iconst 1, 1) := by decide +kernel
theorem dX5_isWord_5 : decode cX5_isWord 5 = .ok (.if_icmp .ne 19, 3) := by decide +kernel
theorem dX5_isWord_8 : decode cX5_isWord 8 = .ok (.aload_n 0, 1) := by decide +kernel
theorem dX5_isWord_9 : decode cX5_isWord 9 = .ok (.getfield 54, 3) := by decide +kernel
theorem dX5_isWord_12 : decode cX5_isWord 12 = .ok (.aload_n 0, 1) := by decide +kernel
theorem dX5_isWord_13 : decode cX5_isWord 13 = .ok (.getfield 51, 3) := by decide +kernel
theorem dX5_isWord_16 : decode cX5_isWord 16 = .ok (.isub, 1) := by decide +kernel
theorem dX5_isWord_17 : decode cX5_isWord 17 = .ok (.aload_n 1, 1) := by decide +kernel
theorem dX5_isWord_18 : decode cX5_isWord 18 = .ok (.invokevirtual 147, 3) := by decide +kernel
theorem dX5_isWord_21 : decode cX5_isWord 21 = .ok (.if_icmp .eq 5, 3) := by decide +kernel
theorem dX5_isWord_24 : decode cX5_isWord 24 = .ok (.iconst 0, 1) := by decide +kernel
theorem dX5_isWord_25 : decode cX5_isWord 25 = .ok (.ireturn, 1) := by decide +kernel
theorem dX5_isWord_26 : decode cX5_isWord 26 = .ok (.iconst 0, 1) := by decide +kernel
theorem dX5_isWord_27 : decode cX5_isWord 27 = .ok (.istore_n 2, 1) := by decide +kernel
theorem dX5_isWord_28 : decode cX5_isWord 28 = .ok (.iload_n 2, 1) := by decide +kernel
theorem dX5_isWord_29 : decode cX5_isWord 29 = .ok (.aload_n 1, 1) := by decide +kernel
theorem dX5_isWord_30 : decode cX5_isWord 30 = .ok (.invokevirtual 147, 3) := by decide +kernel
theorem dX5_isWord_33 : decode cX5_isWord 33 = .ok (.if_icmp .ge 29, 3) := by decide +kernel
theorem dX5_isWord_36 : decode cX5_isWord 36 = .ok (.aload_n 0, 1) := by decide +kernel
theorem dX5_isWord_37 : decode cX5_isWord 37 = .ok (.aload_n 0, 1) := by decide +kernel
theorem dX5_isWord_38 : decode cX5_isWord 38 = .ok (.getfield 51, 3) := by decide +kernel
theorem dX5_isWord_41 : decode cX5_isWord 41 = .ok (.iload_n 2, 1) := by decide +kernel
theorem dX5_isWord_42 : decode cX5_isWord 42 = .ok (.iadd, 1) := by decide +kernel
theorem dX5_isWord_43 : decode cX5_isWord 43 = .ok (.invokevirtual 150, 3) := by decide +kernel
theorem dX5_isWord_46 : decode cX5_isWord 46 = .ok (.aload_n 1, 1) := by decide +kernel
theorem dX5_isWord_47 : decode cX5_isWord 47 = .ok (.iload_n 2, 1) := by decide +kernel
theorem dX5_isWord_48 : decode cX5_isWord 48 = .ok (.invokevirtual 154, 3) := by decide +kernel
theorem dX5_isWord_51 : decode cX5_isWord 51 = .ok (.if_icmp .eq 5, 3) := by decide +kernel
theorem dX5_isWord_54 : decode cX5_isWord 54 = .ok (.iconst 0, 1) := by decide +kernel
theorem dX5_isWord_55 : decode cX5_isWord 55 = .ok (.ireturn, 1) := by decide +kernel
theorem dX5_isWord_56 : decode cX5_isWord 56 = .ok (.iinc 2 1, 3) := by decide +kernel
theorem dX5_isWord_59 : decode cX5_isWord 59 = .ok (.goto (-31), 3) := by decide +kernel
theorem dX5_isWord_62 : decode cX5_isWord 62 = .ok (.iconst 1, 1) := by decide +kernel
theorem dX5_isWord_63 : decode cX5_isWord 63 = .ok (.ireturn, 1) := by decide +kernel
theorem dX5_advance_0 : decode cX5_advance 0 = .ok (.aload_n 0, 1) := by decide +kernel
theorem dX5_advance_1 : decode cX5_advance 1 = .ok (.getfield 54, 3) := by decide +kernel
theorem dX5_advance_4 : decode cX5_advance 4 = .ok (.aload_n 0, 1) := by decide +kernel
theorem dX5_advance_5 : decode cX5_advance 5 = .ok (.getfield 39, 3) := by decide +kernel
theorem dX5_advance_8 : decode cX5_advance 8 = .ok (.if_icmp .ge 30, 3) := by decide +kernel
theorem dX5_advance_11 : decode cX5_advance 11 = .ok (.aload_n 0, 1) := by decide +kernel
theorem dX5_advance_12 : decode cX5_advance 12 = .ok (.aload_n 0, 1) := by decide +kernel
theorem dX5_advance_13 : decode cX5_advance 13 = .ok (.getfield 54, 3) := by decide +kernel
theorem dX5_advance_16 : decode cX5_advance 16 = .ok (.invokevirtual 150, 3) := by decide +kernel
theorem dX5_advance_19 : decode cX5_advance 19 = .ok (.invokestatic 158, 3) := by decide +kernel
theorem dX5_advance_22 : decode cX5_advance 22 = .ok (.ifCond .eq 16, 3) := by decide +kernel
theorem dX5_advance_25 : decode cX5_advance 25 = .ok (.aload_n 0, 1) := by decide +kernel
theorem dX5_advance_26 : decode cX5_advance 26 = .ok (.dup, 1) := by decide +kernel
theorem dX5_advance_27 : decode cX5_advance 27 = .ok (.getfield 54, 3) := by decide +kernel
theorem dX5_advance_30 : decode cX5_advance 30 = .ok (.iconst 1, 1) := by decide +kernel
theorem dX5_advance_31 : decode cX5_advance 31 = .ok (.iadd, 1) := by decide +kernel
theorem dX5_advance_32 : decode cX5_advance 32 = .ok (.putfield 54, 3) := by decide +kernel
theorem dX5_advance_35 : decode cX5_advance 35 = .ok (.goto (-35), 3) := by decide +kernel
theorem dX5_advance_38 : decode cX5_advance 38 = .ok (.aload_n 0, 1) := by decide +kernel
theorem dX5_advance_39 : decode cX5_advance 39 = .ok (.aload_n 0, 1) := by decide +kernel
theorem dX5_advance_40 : decode cX5_advance 40 = .ok (.getfield 54, 3) := by decide +kernel
theorem dX5_advance_43 : decode cX5_advance 43 = .ok (.putfield 51, 3) := by decide +kernel
theorem dX5_advance_46 : decode cX5_advance 46 = .ok (.aload_n 0, 1) := by decide +kernel
theorem dX5_advance_47 : decode cX5_advance 47 = .ok (.getfield 51, 3) := by decide +kernel
theorem dX5_advance_50 : decode cX5_advance 50 = .ok (.aload_n 0, 1) := by decide +kernel
theorem dX5_advance_51 : decode cX5_advance 51 = .ok (.getfield 39, 3) := by decide +kernel
theorem dX5_advance_54 : decode cX5_advance 54 = .ok (.if_icmp .lt 11, 3) := by decide +kernel
theorem dX5_advance_57 : decode cX5_advance 57 = .ok (.aload_n 0, 1) := by decide +kernel
theorem dX5_advance_58 : decode cX5_advance 58 = .ok (.iconst 0, 1) := by decide +kernel
theorem dX5_advance_59 : decode cX5_advance 59 = .ok (.putfield 48, 3) := by decide +kernel
theorem dX5_advance_62 : decode cX5_advance 62 = .ok (.goto 77, 3) := by decide +kernel
theorem dX5_advance_65 : decode cX5_advance 65 = .ok (.aload_n 0, 1) := by decide +kernel
theorem dX5_advance_66 : decode cX5_advance 66 = .ok (.aload_n 0, 1) := by decide +kernel
theorem dX5_advance_67 : decode cX5_advance 67 = .ok (.getfield 51, 3) := by decide +kernel
theorem dX5_advance_70 : decode cX5_advance 70 = .ok (.invokevirtual 150, 3) := by decide +kernel
theorem dX5_advance_73 : decode cX5_advance 73 = .ok (.invokestatic 161, 3) := by decide +kernel
theorem dX5_advance_76 : decode cX5_advance 76 = .ok (.ifCond .eq 10, 3) := by decide +kernel
theorem dX5_advance_79 : decode cX5_advance 79 = .ok (.aload_n 0, 1) := by decide +kernel
theorem dX5_advance_80 : decode cX5_advance 80 = .ok (.invokevirtual 164, 3) := by decide +kernel
theorem dX5_advance_83 : decode cX5_advance 83 = .ok (.goto 56, 3) := by decide +kernel
theorem dX5_advance_86 : decode cX5_advance 86 = .ok (.aload_n 0, 1) := by decide +kernel
theorem dX5_advance_87 : decode cX5_advance 87 = .ok (.aload_n 0, 1) := by decide +kernel
theorem dX5_advance_88 : decode cX5_advance 88 = .ok (.getfield 51, 3) := by decide +kernel
theorem dX5_advance_91 : decode cX5_advance 91 = .ok (.invokevirtual 150, 3) := by decide +kernel
theorem dX5_advance_94 : decode cX5_advance 94 = .ok (.invokestatic 167, 3) := by decide +kernel
theorem dX5_advance_97 : decode cX5_advance 97 = .ok (.ifCond .eq 10, 3) := by decide +kernel
theorem dX5_advance_100 : decode cX5_advance 100 = .ok (.aload_n 0, 1) := by decide +kernel
theorem dX5_advance_101 : decode cX5_advance 101 = .ok (.invokevirtual 170, 3) := by decide +kernel
theorem dX5_advance_104 : decode cX5_advance 104 = .ok (.goto 35, 3) := by decide +kernel
theorem dX5_advance_107 : decode cX5_advance 107 = .ok (.aload_n 0, 1) := by decide +kernel
theorem dX5_advance_108 : decode cX5_advance 108 = .ok (.aload_n 0, 1) := by decide +kernel
theorem dX5_advance_109 : decode cX5_advance 109 = .ok (.aload_n 0, 1) := by decide +kernel
theorem dX5_advance_110 : decode cX5_advance 110 = .ok (.getfield 51, 3) := by decide +kernel
theorem dX5_advance_113 : decode cX5_advance 113 = .ok (.invokevirtual 150, 3) := by decide +kernel
theorem dX5_advance_116 : decode cX5_advance 116 = .ok (.bipush 59, 2) := by decide +kernel
theorem dX5_advance_118 : decode cX5_advance 118 = .ok (.if_icmp .ne 7, 3) := by decide +kernel
theorem dX5_advance_121 : decode cX5_advance 121 = .ok (.iconst 3, 1) := by decide +kernel
theorem dX5_advance_122 : decode cX5_advance 122 = .ok (.goto 4, 3) := by decide +kernel
theorem dX5_advance_125 : decode cX5_advance 125 = .ok (.iconst 4, 1) := by decide +kernel
theorem dX5_advance_126 : decode cX5_advance 126 = .ok (.putfield 48, 3) := by decide +kernel
theorem dX5_advance_129 : decode cX5_advance 129 = .ok (.aload_n 0, 1) := by decide +kernel
theorem dX5_advance_130 : decode cX5_advance 130 = .ok (.dup, 1) := by decide +kernel
theorem dX5_advance_131 : decode cX5_advance 131 = .ok (.getfield 54, 3) := by decide +kernel
theorem dX5_advance_134 : decode cX5_advance 134 = .ok (.iconst 1, 1) := by decide +kernel
theorem dX5_advance_135 : decode cX5_advance 135 = .ok (.iadd, 1) := by decide +kernel
theorem dX5_advance_136 : decode cX5_advance 136 = .ok (.putfield 54, 3) := by decide +kernel
theorem dX5_advance_139 : decode cX5_advance 139 = .ok (.return_, 1) := by decide +kernel
theorem dX5_takeWord_0 : decode cX5_takeWord 0 = .ok (.aload_n 0, 1) := by decide +kernel
theorem dX5_takeWord_1 : decode cX5_takeWord 1 = .ok (.getfield 54, 3) := by decide +kernel
theorem dX5_takeWord_4 : decode cX5_takeWord 4 = .ok (.aload_n 0, 1) := by decide +kernel
theorem dX5_takeWord_5 : decode cX5_takeWord 5 = .ok (.getfield 39, 3) := by decide +kernel
theorem dX5_takeWord_8 : decode cX5_takeWord 8 = .ok (.if_icmp .ge 30, 3) := by decide +kernel
theorem dX5_takeWord_11 : decode cX5_takeWord 11 = .ok (.aload_n 0, 1) := by decide +kernel
theorem dX5_takeWord_12 : decode cX5_takeWord 12 = .ok (.aload_n 0, 1) := by decide +kernel
theorem dX5_takeWord_13 : decode cX5_takeWord 13 = .ok (.getfield 54, 3) := by decide +kernel
theorem dX5_takeWord_16 : decode cX5_takeWord 16 = .ok (.invokevirtual 150, 3) := by decide +kernel
theorem dX5_takeWord_19 : decode cX5_takeWord 19 = .ok (.invokestatic 161, 3) := by decide +kernel
theorem dX5_takeWord_22 : decode cX5_takeWord 22 = .ok (.ifCond .eq 16, 3) := by decide +kernel
theorem dX5_takeWord_25 : decode cX5_takeWord 25 = .ok (.aload_n 0, 1) := by decide +kernel
theorem dX5_takeWord_26 : decode cX5_takeWord 26 = .ok (.dup, 1) := by decide +kernel
theorem dX5_takeWord_27 : decode cX5_takeWord 27 = .ok (.getfield 54, 3) := by decide +kernel
theorem dX5_takeWord_30 : decode cX5_takeWord 30 = .ok (.iconst 1, 1) := by decide +kernel
theorem dX5_takeWord_31 : decode cX5_takeWord 31 = .ok (.iadd, 1) := by decide +kernel
theorem dX5_takeWord_32 : decode cX5_takeWord 32 = .ok (.putfield 54, 3) := by decide +kernel
theorem dX5_takeWord_35 : decode cX5_takeWord 35 = .ok (.goto (-35), 3) := by decide +kernel
theorem dX5_takeWord_38 : decode cX5_takeWord 38 = .ok (.aload_n 0, 1) := by decide +kernel
theorem dX5_takeWord_39 : decode cX5_takeWord 39 = .ok (.aload_n 0, 1) := by decide +kernel
theorem dX5_takeWord_40 : decode cX5_takeWord 40 = .ok (.getfield 54, 3) := by decide +kernel
theorem dX5_takeWord_43 : decode cX5_takeWord 43 = .ok (.aload_n 0, 1) := by decide +kernel
theorem dX5_takeWord_44 : decode cX5_takeWord 44 = .ok (.getfield 51, 3) := by decide +kernel
theorem dX5_takeWord_47 : decode cX5_takeWord 47 = .ok (.isub, 1) := by decide +kernel
theorem dX5_takeWord_48 : decode cX5_takeWord 48 = .ok (.bipush 8, 2) := by decide +kernel
theorem dX5_takeWord_50 : decode cX5_takeWord 50 = .ok (.if_icmp .gt 7, 3) := by decide +kernel
theorem dX5_takeWord_53 : decode cX5_takeWord 53 = .ok (.iconst 1, 1) := by decide +kernel
theorem dX5_takeWord_54 : decode cX5_takeWord 54 = .ok (.goto 4, 3) := by decide +kernel
theorem dX5_takeWord_57 : decode cX5_takeWord 57 = .ok (.iconst 4, 1) := by decide +kernel
theorem dX5_takeWord_58 : decode cX5_takeWord 58 = .ok (.putfield 48, 3) := by decide +kernel
theorem dX5_takeWord_61 : decode cX5_takeWord 61 = .ok (.return_, 1) := by decide +kernel
theorem dX5_takeNumber_0 : decode cX5_takeNumber 0 = .ok (.aload_n 0, 1) := by decide +kernel
theorem dX5_takeNumber_1 : decode cX5_takeNumber 1 = .ok (.iconst 0, 1) := by decide +kernel
theorem dX5_takeNumber_2 : decode cX5_takeNumber 2 = .ok (.putfield 57, 3) := by decide +kernel
theorem dX5_takeNumber_5 : decode cX5_takeNumber 5 = .ok (.aload_n 0, 1) := by decide +kernel
theorem dX5_takeNumber_6 : decode cX5_takeNumber 6 = .ok (.getfield 54, 3) := by decide +kernel
theorem dX5_takeNumber_9 : decode cX5_takeNumber 9 = .ok (.aload_n 0, 1) := by decide +kernel
theorem dX5_takeNumber_10 : decode cX5_takeNumber 10 = .ok (.getfield 39, 3) := by decide +kernel
theorem dX5_takeNumber_13 : decode cX5_takeNumber 13 = .ok (.if_icmp .ge 53, 3) := by decide +kernel
theorem dX5_takeNumber_16 : decode cX5_takeNumber 16 = .ok (.aload_n 0, 1) := by decide +kernel
theorem dX5_takeNumber_17 : decode cX5_takeNumber 17 = .ok (.aload_n 0, 1) := by decide +kernel
theorem dX5_takeNumber_18 : decode cX5_takeNumber 18 = .ok (.getfield 54, 3) := by decide +kernel
theorem dX5_takeNumber_21 : decode cX5_takeNumber 21 = .ok (.invokevirtual 150, 3) := by decide +kernel
theorem dX5_takeNumber_24 : decode cX5_takeNumber 24 = .ok (.invokestatic 167, 3) := by decide +kernel
theorem dX5_takeNumber_27 : decode cX5_takeNumber 27 = .ok (.ifCond .eq 39, 3) := by decide +kernel
theorem dX5_takeNumber_30 : decode cX5_takeNumber 30 = .ok (.aload_n 0, 1) := by decide +kernel
theorem dX5_takeNumber_31 : decode cX5_takeNumber 31 = .ok (.aload_n 0, 1) := by decide +kernel
theorem dX5_takeNumber_32 : decode cX5_takeNumber 32 = .ok (.getfield 57, 3) := by decide +kernel
theorem dX5_takeNumber_35 : decode cX5_takeNumber 35 = .ok (.bipush 10, 2) := by decide +kernel
theorem dX5_takeNumber_37 : decode cX5_takeNumber 37 = .ok (.imul, 1) := by decide +kernel
theorem dX5_takeNumber_38 : decode cX5_takeNumber 38 = .ok (.aload_n 0, 1) := by decide +kernel
theorem dX5_takeNumber_39 : decode cX5_takeNumber 39 = .ok (.aload_n 0, 1) := by decide +kernel
theorem dX5_takeNumber_40 : decode cX5_takeNumber 40 = .ok (.getfield 54, 3) := by decide +kernel
theorem dX5_takeNumber_43 : decode cX5_takeNumber 43 = .ok (.invokevirtual 150, 3) := by decide +kernel
theorem dX5_takeNumber_46 : decode cX5_takeNumber 46 = .ok (.iadd, 1) := by decide +kernel
theorem dX5_takeNumber_47 : decode cX5_takeNumber 47 = .ok (.bipush 48, 2) := by decide +kernel
theorem dX5_takeNumber_49 : decode cX5_takeNumber 49 = .ok (.isub, 1) := by decide +kernel
theorem dX5_takeNumber_50 : decode cX5_takeNumber 50 = .ok (.putfield 57, 3) := by decide +kernel
theorem dX5_takeNumber_53 : decode cX5_takeNumber 53 = .ok (.aload_n 0, 1) := by decide +kernel
theorem dX5_takeNumber_54 : decode cX5_takeNumber 54 = .ok (.dup, 1) := by decide +kernel
theorem dX5_takeNumber_55 : decode cX5_takeNumber 55 = .ok (.getfield 54, 3) := by decide +kernel
theorem dX5_takeNumber_58 : decode cX5_takeNumber 58 = .ok (.iconst 1, 1) := by decide +kernel
theorem dX5_takeNumber_59 : decode cX5_takeNumber 59 = .ok (.iadd, 1) := by decide +kernel
theorem dX5_takeNumber_60 : decode cX5_takeNumber 60 = .ok (.putfield 54, 3) := by decide +kernel
theorem dX5_takeNumber_63 : decode cX5_takeNumber 63 = .ok (.goto (-58), 3) := by decide +kernel
theorem dX5_takeNumber_66 : decode cX5_takeNumber 66 = .ok (.aload_n 0, 1) := by decide +kernel
theorem dX5_takeNumber_67 : decode cX5_takeNumber 67 = .ok (.aload_n 0, 1) := by decide +kernel
theorem dX5_takeNumber_68 : decode cX5_takeNumber 68 = .ok (.getfield 54, 3) := by decide +kernel
theorem dX5_takeNumber_71 : decode cX5_takeNumber 71 = .ok (.aload_n 0, 1) := by decide +kernel
theorem dX5_takeNumber_72 : decode cX5_takeNumber 72 = .ok (.getfield 51, 3) := by decide +kernel
theorem dX5_takeNumber_75 : decode cX5_takeNumber 75 = .ok (.isub, 1) := by decide +kernel
theorem dX5_takeNumber_76 : decode cX5_takeNumber 76 = .ok (.iconst 2, 1) := by decide +kernel
theorem dX5_takeNumber_77 : decode cX5_takeNumber 77 = .ok (.if_icmp .gt 7, 3) := by decide +kernel
theorem dX5_takeNumber_80 : decode cX5_takeNumber 80 = .ok (.iconst 2, 1) := by decide +kernel
theorem dX5_takeNumber_81 : decode cX5_takeNumber 81 = .ok (.goto 4, 3) := by decide +kernel
theorem dX5_takeNumber_84 : decode cX5_takeNumber 84 = .ok (.iconst 4, 1) := by decide +kernel
theorem dX5_takeNumber_85 : decode cX5_takeNumber 85 = .ok (.putfield 48, 3) := by decide +kernel
theorem dX5_takeNumber_88 : decode cX5_takeNumber 88 = .ok (.return_, 1) := by decide +kernel
theorem dX5_byteAt_0 : decode cX5_byteAt 0 = .ok (.iload_n 1, 1) := by decide +kernel
theorem dX5_byteAt_1 : decode cX5_byteAt 1 = .ok (.ifCond .lt 23, 3) := by decide +kernel
theorem dX5_byteAt_4 : decode cX5_byteAt 4 = .ok (.iload_n 1, 1) := by decide +kernel
theorem dX5_byteAt_5 : decode cX5_byteAt 5 = .ok (.sipush 400, 3) := by decide +kernel
theorem dX5_byteAt_8 : decode cX5_byteAt 8 = .ok (.if_icmp .ge 16, 3) := by decide +kernel
theorem dX5_byteAt_11 : decode cX5_byteAt 11 = .ok (.aload_n 0, 1) := by decide +kernel
theorem dX5_byteAt_12 : decode cX5_byteAt 12 = .ok (.getfield 11, 3) := by decide +kernel
theorem dX5_byteAt_15 : decode cX5_byteAt 15 = .ok (.iload_n 1, 1) := by decide +kernel
theorem dX5_byteAt_16 : decode cX5_byteAt 16 = .ok (.baload, 1) := by decide +kernel
theorem dX5_byteAt_17 : decode cX5_byteAt 17 = .ok (.sipush 255, 3) := by decide +kernel
theorem dX5_byteAt_20 : decode cX5_byteAt 20 = .ok (.iand, 1) := by decide +kernel
theorem dX5_byteAt_21 : decode cX5_byteAt 21 = .ok (.goto 4, 3) := by decide +kernel
theorem dX5_byteAt_24 : decode cX5_byteAt 24 = .ok (.iconst 0, 1) := by decide +kernel
theorem dX5_byteAt_25 : decode cX5_byteAt 25 = .ok (.ireturn, 1) := by decide +kernel
theorem dX5_isBlank_0 : decode cX5_isBlank 0 = .ok (.iload_n 0, 1) := by decide +kernel
theorem dX5_isBlank_1 : decode cX5_isBlank 1 = .ok (.bipush 32, 2) := by decide +kernel
theorem dX5_isBlank_3 : decode cX5_isBlank 3 = .ok (.if_icmp .eq 9, 3) := by decide +kernel
theorem dX5_isBlank_6 : decode cX5_isBlank 6 = .ok (.iload_n 0, 1) := by decide +kernel
theorem dX5_isBlank_7 : decode cX5_isBlank 7 = .ok (.bipush 10, 2) := by decide +kernel
theorem dX5_isBlank_9 : decode cX5_isBlank 9 = .ok (.if_icmp .ne 7, 3) := by decide +kernel
theorem dX5_isBlank_12 : decode cX5_isBlank 12 = .ok (.iconst 1, 1) := by decide +kernel
theorem dX5_isBlank_13 : decode cX5_isBlank 13 = .ok (.goto 4, 3) := by decide +kernel
theorem dX5_isBlank_16 : decode cX5_isBlank 16 = .ok (.iconst 0, 1) := by decide +kernel
theorem dX5_isBlank_17 : decode cX5_isBlank 17 = .ok (.ireturn, 1) := by decide +kernel
theorem dX5_isLetter_0 : decode cX5_isLetter 0 = .ok (.iload_n 0, 1) := by decide +kernel
theorem dX5_isLetter_1 : decode cX5_isLetter 1 = .ok (.bipush 97, 2) := by decide +kernel
theorem dX5_isLetter_3 : decode cX5_isLetter 3 = .ok (.if_icmp .lt 13, 3) := by decide +kernel
theorem dX5_isLetter_6 : decode cX5_isLetter 6 = .ok (.iload_n 0, 1) := by decide +kernel
theorem dX5_isLetter_7 : decode cX5_isLetter 7 = .ok (.bipush 122, 2) := by decide +kernel
theorem dX5_isLetter_9 : decode cX5_isLetter 9 = .ok (.if_icmp .gt 7, 3) := by decide +kernel
theorem dX5_isLetter_12 : decode cX5_isLetter 12 = .ok (.iconst 1, 1) := by decide +kernel
theorem dX5_isLetter_13 : decode cX5_isLetter 13 = .ok (.goto 4, 3) := by decide +kernel
theorem dX5_isLetter_16 : decode cX5_isLetter 16 = .ok (.iconst 0, 1) := by decide +kernel
theorem dX5_isLetter_17 : decode cX5_isLetter 17 = .ok (.ireturn, 1) := by decide +kernel
theorem dX5_isDigit_0 : decode cX5_isDigit 0 = .ok (.iload_n 0, 1) := by decide +kernel
theorem dX5_isDigit_1 : decode cX5_isDigit 1 = .ok (.bipush 48, 2) := by decide +kernel
theorem dX5_isDigit_3 : decode cX5_isDigit 3 = .ok (.if_icmp .lt 13, 3) := by decide +kernel
theorem dX5_isDigit_6 : decode cX5_isDigit 6 = .ok (.iload_n 0, 1) := by decide +kernel
theorem dX5_isDigit_7 : decode cX5_isDigit 7 = .ok (.bipush 57, 2) := by decide +kernel
theorem dX5_isDigit_9 : decode cX5_isDigit 9 = .ok (.if_icmp .gt 7, 3) := by decide +kernel
theorem dX5_isDigit_12 : decode cX5_isDigit 12 = .ok (.iconst 1, 1) := by decide +kernel
theorem dX5_isDigit_13 : decode cX5_isDigit 13 = .ok (.goto 4, 3) := by decide +kernel
theorem dX5_isDigit_16 : decode cX5_isDigit 16 = .ok (.iconst 0, 1) := by decide +kernel
theorem dX5_isDigit_17 : decode cX5_isDigit 17 = .ok (.ireturn, 1) := by decide +kernel
theorem dX6_init_0 : decode cX6_init 0 = .ok (.aload_n 0, 1) := by decide +kernel
theorem dX6_init_1 : decode cX6_init 1 = .ok (.invokespecial 3, 3) := by decide +kernel
theorem dX6_init_4 : decode cX6_init 4 = .ok (.aload_n 0, 1) := by decide +kernel
theorem dX6_init_5 : decode cX6_init 5 = .ok (.bipush 8, 2) := by decide +kernel
theorem dX6_init_7 : decode cX6_init 7 = .ok (.newarray .int, 2) := by decide +kernel
theorem dX6_init_9 : decode cX6_init 9 = .ok (.putfield 9, 3) := by decide +kernel
theorem dX6_init_12 : decode cX6_init 12 = .ok (.aload_n 0, 1) := by decide +kernel
theorem dX6_init_13 : decode cX6_init 13 = .ok (.bipush 8, 2) := by decide +kernel
theorem dX6_init_15 : decode cX6_init 15 = .ok (.newarray .int, 2) := by decide +kernel
theorem dX6_init_17 : decode cX6_init 17 = .ok (.putfield 15, 3) := by decide +kernel
theorem dX6_init_20 : decode cX6_init 20 = .ok (.aload_n 0, 1) := by decide +kernel
theorem dX6_init_21 : decode cX6_init 21 = .ok (.bipush 8, 2) := by decide +kernel
theorem dX6_init_23 : decode cX6_init 23 = .ok (.newarray .int, 2) := by decide +kernel
theorem dX6_init_25 : decode cX6_init 25 = .ok (.putfield 18, 3) := by decide +kernel
theorem dX6_init_28 : decode cX6_init 28 = .ok (.aload_n 0, 1) := by decide +kernel
theorem dX6_init_29 : decode cX6_init 29 = .ok (.iconst 0, 1) := by decide +kernel
theorem dX6_init_30 : decode cX6_init 30 = .ok (.putfield 21, 3) := by decide +kernel
theorem dX6_init_33 : decode cX6_init 33 = .ok (.aload_n 0, 1) := by decide +kernel
theorem dX6_init_34 : decode cX6_init 34 = .ok (.iconst 0, 1) := by decide +kernel
theorem dX6_init_35 : decode cX6_init 35 = .ok (.putfield 25, 3) := by decide +kernel
theorem dX6_init_38 : decode cX6_init 38 = .ok (.return_, 1) := by decide +kernel
theorem dX6_clear_0 : decode cX6_clear 0 = .ok (.aload_n 0, 1) := by decide +kernel
theorem dX6_clear_1 : decode cX6_clear 1 = .ok (.iconst 0, 1) := by decide +kernel
theorem dX6_clear_2 : decode cX6_clear 2 = .ok (.putfield 21, 3) := by decide +kernel
theorem dX6_clear_5 : decode cX6_clear 5 = .ok (.aload_n 0, 1) := by decide +kernel
theorem dX6_clear_6 : decode cX6_clear 6 = .ok (.iconst 0, 1) := by decide +kernel
theorem dX6_clear_7 : decode cX6_clear 7 = .ok (.putfield 25, 3) := by decide +kernel
theorem dX6_clear_10 : decode cX6_clear 10 = .ok (.return_, 1) := by decide +kernel
theorem dX6_isFull_0 : decode cX6_isFull 0 = .ok (.aload_n 0, 1) := by decide +kernel
theorem dX6_isFull_1 : decode cX6_isFull 1 = .ok (.getfield 21, 3) := by decide +kernel
theorem dX6_isFull_4 : decode cX6_isFull 4 = .ok (.aload_n 0, 1) := by decide +kernel
theorem dX6_isFull_5 : decode cX6_isFull 5 = .ok (.getfield 9, 3) := by decide +kernel
theorem dX6_isFull_8 : decode cX6_isFull 8 = .ok (.arraylength, 1) := by decide +kernel
theorem dX6_isFull_9 : decode cX6_isFull 9 = .ok (.if_icmp .lt 7, 3) := by decide +kernel
theorem dX6_isFull_12 : decode cX6_isFull 12 = .ok (.iconst 1, 1) := by decide +kernel
theorem dX6_isFull_13 : decode cX6_isFull 13 = .ok (.goto 4, 3) := by decide +kernel
theorem dX6_isFull_16 : decode cX6_isFull 16 = .ok (.iconst 0, 1) := by decide +kernel
theorem dX6_isFull_17 : decode cX6_isFull 17 = .ok (.ireturn, 1) := by decide +kernel
theorem dX6_length_0 : decode cX6_length 0 = .ok (.aload_n 0, 1) := by decide +kernel
theorem dX6_length_1 : decode cX6_length 1 = .ok (.getfield 21, 3) := by decide +kernel
theorem dX6_length_4 : decode cX6_length 4 = .ok (.ireturn, 1) := by decide +kernel
theorem dX6_total_0 : decode cX6_total 0 = .ok (.aload_n 0, 1) := by decide +kernel
theorem dX6_total_1 : decode cX6_total 1 = .ok (.getfield 25, 3) := by decide +kernel
theorem dX6_total_4 : decode cX6_total 4 = .ok (.ireturn, 1) := by decide +kernel
theorem dX6_append_0 : decode cX6_append 0 = .ok (.aload_n 0, 1) := by decide +kernel
theorem dX6_append_1 : decode cX6_append 1 = .ok (.invokevirtual 28, 3) := by decide +kernel
theorem dX6_append_4 : decode cX6_append 4 = .ok (.ifCond .eq 4, 3) := by decide +kernel
theorem dX6_append_7 : decode cX6_append 7 = .ok (.return_, 1) := by decide +kernel
theorem dX6_append_8 : decode cX6_append 8 = .ok (.aload_n 0, 1) := by decide +kernel
theorem dX6_append_9 : decode cX6_append 9 = .ok (.getfield 9, 3) := by decide +kernel
theorem dX6_append_12 : decode cX6_append 12 = .ok (.aload_n 0, 1) := by decide +kernel
theorem dX6_append_13 : decode cX6_append 13 = .ok (.getfield 21, 3) := by decide +kernel
theorem dX6_append_16 : decode cX6_append 16 = .ok (.iload_n 1, 1) := by decide +kernel
theorem dX6_append_17 : decode cX6_append 17 = .ok (.iastore, 1) := by decide +kernel
theorem dX6_append_18 : decode cX6_append 18 = .ok (.aload_n 0, 1) := by decide +kernel
theorem dX6_append_19 : decode cX6_append 19 = .ok (.iload_n 1, 1) := by decide +kernel
theorem dX6_append_20 : decode cX6_append 20 = .ok (.invokevirtual 32, 3) := by decide +kernel
theorem dX6_append_23 : decode cX6_append 23 = .ok (.aload_n 0, 1) := by decide +kernel
theorem dX6_append_24 : decode cX6_append 24 = .ok (.dup, 1) := by decide +kernel
theorem dX6_append_25 : decode cX6_append 25 = .ok (.getfield 21, 3) := by decide +kernel
theorem dX6_append_28 : decode cX6_append 28 = .ok (.iconst 1, 1) := by decide +kernel
theorem dX6_append_29 : decode cX6_append 29 = .ok (.iadd, 1) := by decide +kernel
theorem dX6_append_30 : decode cX6_append 30 = .ok (.putfield 21, 3) := by decide +kernel
theorem dX6_append_33 : decode cX6_append 33 = .ok (.aload_n 0, 1) := by decide +kernel
theorem dX6_append_34 : decode cX6_append 34 = .ok (.dup, 1) := by decide +kernel
theorem dX6_append_35 : decode cX6_append 35 = .ok (.getfield 25, 3) := by decide +kernel
theorem dX6_append_38 : decode cX6_append 38 = .ok (.iload_n 1, 1) := by decide +kernel
theorem dX6_append_39 : decode cX6_append 39 = .ok (.iadd, 1) := by decide +kernel
theorem dX6_append_40 : decode cX6_append 40 = .ok (.putfield 25, 3) := by decide +kernel
theorem dX6_append_43 : decode cX6_append 43 = .ok (.return_, 1) := by decide +kernel
theorem dX6_insertFalling_0 : decode cX6_insertFalling 0 = .ok (.aload_n 0, 1) := by decide +kernel
theorem dX6_insertFalling_1 : decode cX6_insertFalling 1 = .ok (.getfield 21, 3) := by decide +kernel
theorem dX6_insertFalling_4 : decode cX6_insertFalling 4 = .ok (.istore_n 2, 1) := by decide +kernel
theorem dX6_insertFalling_5 : decode cX6_insertFalling 5 = .ok (.iload_n 2, 1) := by decide +kernel
theorem dX6_insertFalling_6 : decode cX6_insertFalling 6 = .ok (.ifCond .le 35, 3) := by decide +kernel
theorem dX6_insertFalling_9 : decode cX6_insertFalling 9 = .ok (.aload_n 0, 1) := by decide +kernel
theorem dX6_insertFalling_10 : decode cX6_insertFalling 10 = .ok (.getfield 15, 3) := by decide +kernel
theorem dX6_insertFalling_13 : decode cX6_insertFalling 13 = .ok (.iload_n 2, 1) := by decide +kernel
theorem dX6_insertFalling_14 : decode cX6_insertFalling 14 = .ok (.iconst 1, 1) := by decide +kernel
theorem dX6_insertFalling_15 : decode cX6_insertFalling 15 = .ok (.isub, 1) := by decide +kernel
theorem dX6_insertFalling_16 : decode cX6_insertFalling 16 = .ok (.iaload, 1) := by decide +kernel
theorem dX6_insertFalling_17 : decode cX6_insertFalling 17 = .ok (.iload_n 1, 1) := by decide +kernel
theorem dX6_insertFalling_18 : decode cX6_insertFalling 18 = .ok (.if_icmp .ge 23, 3) := by decide +kernel
theorem dX6_insertFalling_21 : decode cX6_insertFalling 21 = .ok (.aload_n 0, 1) := by decide +kernel
theorem dX6_insertFalling_22 : decode cX6_insertFalling 22 = .ok (.getfield 15, 3) := by decide +kernel
theorem dX6_insertFalling_25 : decode cX6_insertFalling 25 = .ok (.iload_n 2, 1) := by decide +kernel
theorem dX6_insertFalling_26 : decode cX6_insertFalling 26 = .ok (.aload_n 0, 1) := by decide +kernel
theorem dX6_insertFalling_27 : decode cX6_insertFalling 27 = .ok (.getfield 15, 3) := by decide +kernel
theorem dX6_insertFalling_30 : decode cX6_insertFalling 30 = .ok (.iload_n 2, 1) := by decide +kernel
theorem dX6_insertFalling_31 : decode cX6_insertFalling 31 = .ok (.iconst 1, 1) := by decide +kernel
theorem dX6_insertFalling_32 : decode cX6_insertFalling 32 = .ok (.isub, 1) := by decide +kernel
theorem dX6_insertFalling_33 : decode cX6_insertFalling 33 = .ok (.iaload, 1) := by decide +kernel
theorem dX6_insertFalling_34 : decode cX6_insertFalling 34 = .ok (.iastore, 1) := by decide +kernel
theorem dX6_insertFalling_35 : decode cX6_insertFalling 35 = .ok (.iinc 2 (-1), 3) := by decide +kernel
theorem dX6_insertFalling_38 : decode cX6_insertFalling 38 = .ok (.goto (-33), 3) := by decide +kernel
theorem dX6_insertFalling_41 : decode cX6_insertFalling 41 = .ok (.aload_n 0, 1) := by decide +kernel
theorem dX6_insertFalling_42 : decode cX6_insertFalling 42 = .ok (.getfield 15, 3) := by decide +kernel
theorem dX6_insertFalling_45 : decode cX6_insertFalling 45 = .ok (.iload_n 2, 1) := by decide +kernel
theorem dX6_insertFalling_46 : decode cX6_insertFalling 46 = .ok (.iload_n 1, 1) := by decide +kernel
theorem dX6_insertFalling_47 : decode cX6_insertFalling 47 = .ok (.iastore, 1) := by decide +kernel
theorem dX6_insertFalling_48 : decode cX6_insertFalling 48 = .ok (.return_, 1) := by decide +kernel
theorem dX6_take_0 : decode cX6_take 0 = .ok (.aload_n 0, 1) := by decide +kernel
theorem dX6_take_1 : decode cX6_take 1 = .ok (.invokevirtual 36, 3) := by decide +kernel
theorem dX6_take_4 : decode cX6_take 4 = .ok (.iconst 0, 1) := by decide +kernel
theorem dX6_take_5 : decode cX6_take 5 = .ok (.istore_n 2, 1) := by decide +kernel
theorem dX6_take_6 : decode cX6_take 6 = .ok (.iload_n 2, 1) := by decide +kernel
theorem dX6_take_7 : decode cX6_take 7 = .ok (.aload_n 1, 1) := by decide +kernel
theorem dX6_take_8 : decode cX6_take 8 = .ok (.invokevirtual 39, 3) := by decide +kernel
theorem dX6_take_11 : decode cX6_take 11 = .ok (.if_icmp .ge 18, 3) := by decide +kernel
theorem dX6_take_14 : decode cX6_take 14 = .ok (.aload_n 0, 1) := by decide +kernel
theorem dX6_take_15 : decode cX6_take 15 = .ok (.aload_n 1, 1) := by decide +kernel
theorem dX6_take_16 : decode cX6_take 16 = .ok (.iload_n 2, 1) := by decide +kernel
theorem dX6_take_17 : decode cX6_take 17 = .ok (.invokevirtual 45, 3) := by decide +kernel
theorem dX6_take_20 : decode cX6_take 20 = .ok (.invokevirtual 49, 3) := by decide +kernel
theorem dX6_take_23 : decode cX6_take 23 = .ok (.iinc 2 1, 3) := by decide +kernel
theorem dX6_take_26 : decode cX6_take 26 = .ok (.goto (-20), 3) := by decide +kernel
theorem dX6_take_29 : decode cX6_take 29 = .ok (.return_, 1) := by decide +kernel
theorem dX6_greatest_0 : decode cX6_greatest 0 = .ok (.aload_n 0, 1) := by decide +kernel
theorem dX6_greatest_1 : decode cX6_greatest 1 = .ok (.getfield 15, 3) := by decide +kernel
theorem dX6_greatest_4 : decode cX6_greatest 4 = .ok (.iload_n 1, 1) := by decide +kernel
theorem dX6_greatest_5 : decode cX6_greatest 5 = .ok (.iaload, 1) := by decide +kernel
theorem dX6_greatest_6 : decode cX6_greatest 6 = .ok (.ireturn, 1) := by decide +kernel
theorem dX6_slackOf_0 : decode cX6_slackOf 0 = .ok (.iload_n 1, 1) := by decide +kernel
theorem dX6_slackOf_1 : decode cX6_slackOf 1 = .ok (.iload_n 1, 1) := by decide +kernel
theorem dX6_slackOf_2 : decode cX6_slackOf 2 = .ok (.iconst 1, 1) := by decide +kernel
theorem dX6_slackOf_3 : decode cX6_slackOf 3 = .ok (.isub, 1) := by decide +kernel
theorem dX6_slackOf_4 : decode cX6_slackOf 4 = .ok (.imul, 1) := by decide +kernel
theorem dX6_slackOf_5 : decode cX6_slackOf 5 = .ok (.istore_n 2, 1) := by decide +kernel
theorem dX6_slackOf_6 : decode cX6_slackOf 6 = .ok (.iconst 0, 1) := by decide +kernel
theorem dX6_slackOf_7 : decode cX6_slackOf 7 = .ok (.istore_n 3, 1) := by decide +kernel
theorem dX6_slackOf_8 : decode cX6_slackOf 8 = .ok (.iload_n 3, 1) := by decide +kernel
theorem dX6_slackOf_9 : decode cX6_slackOf 9 = .ok (.aload_n 0, 1) := by decide +kernel
theorem dX6_slackOf_10 : decode cX6_slackOf 10 = .ok (.getfield 21, 3) := by decide +kernel
theorem dX6_slackOf_13 : decode cX6_slackOf 13 = .ok (.if_icmp .ge 37, 3) := by decide +kernel
theorem dX6_slackOf_16 : decode cX6_slackOf 16 = .ok (.iload_n 2, 1) := by decide +kernel
theorem dX6_slackOf_17 : decode cX6_slackOf 17 = .ok (.iload_n 3, 1) := by decide +kernel
theorem dX6_slackOf_18 : decode cX6_slackOf 18 = .ok (.iload_n 1, 1) := by decide +kernel
theorem dX6_slackOf_19 : decode cX6_slackOf 19 = .ok (.if_icmp .ge 13, 3) := by decide +kernel
theorem dX6_slackOf_22 : decode cX6_slackOf 22 = .ok (.aload_n 0, 1) := by decide +kernel
theorem dX6_slackOf_23 : decode cX6_slackOf 23 = .ok (.getfield 15, 3) := by decide +kernel
theorem dX6_slackOf_26 : decode cX6_slackOf 26 = .ok (.iload_n 3, 1) := by decide +kernel
theorem dX6_slackOf_27 : decode cX6_slackOf 27 = .ok (.iaload, 1) := by decide +kernel
theorem dX6_slackOf_28 : decode cX6_slackOf 28 = .ok (.ineg, 1) := by decide +kernel
theorem dX6_slackOf_29 : decode cX6_slackOf 29 = .ok (.goto 13, 3) := by decide +kernel
theorem dX6_slackOf_32 : decode cX6_slackOf 32 = .ok (.iload_n 1, 1) := by decide +kernel
theorem dX6_slackOf_33 : decode cX6_slackOf 33 = .ok (.aload_n 0, 1) := by decide +kernel
theorem dX6_slackOf_34 : decode cX6_slackOf 34 = .ok (.getfield 15, 3) := by decide +kernel
theorem dX6_slackOf_37 : decode cX6_slackOf 37 = .ok (.iload_n 3, 1) := by decide +kernel
theorem dX6_slackOf_38 : decode cX6_slackOf 38 = .ok (.iaload, 1) := by decide +kernel
theorem dX6_slackOf_39 : decode cX6_slackOf 39 = .ok (.invokestatic 52, 3) := by decide +kernel
theorem dX6_slackOf_42 : decode cX6_slackOf 42 = .ok (.iadd, 1) := by decide +kernel
theorem dX6_slackOf_43 : decode cX6_slackOf 43 = .ok (.istore_n 2, 1) := by decide +kernel
theorem dX6_slackOf_44 : decode cX6_slackOf 44 = .ok (.iinc 3 1, 3) := by decide +kernel
theorem dX6_slackOf_47 : decode cX6_slackOf 47 = .ok (.goto (-39), 3) := by decide +kernel
theorem dX6_slackOf_50 : decode cX6_slackOf 50 = .ok (.iload_n 2, 1) := by decide +kernel
theorem dX6_slackOf_51 : decode cX6_slackOf 51 = .ok (.ireturn, 1) := by decide +kernel
theorem dX6_allows_0 : decode cX6_allows 0 = .ok (.aload_n 0, 1) := by decide +kernel
theorem dX6_allows_1 : decode cX6_allows 1 = .ok (.getfield 25, 3) := by decide +kernel
theorem dX6_allows_4 : decode cX6_allows 4 = .ok (.iconst 2, 1) := by decide +kernel
theorem dX6_allows_5 : decode cX6_allows 5 = .ok (.irem, 1) := by decide +kernel
theorem dX6_allows_6 : decode cX6_allows 6 = .ok (.ifCond .eq 5, 3) := by decide +kernel
theorem dX6_allows_9 : decode cX6_allows 9 = .ok (.iconst 0, 1) := by decide +kernel
theorem dX6_allows_10 : decode cX6_allows 10 = .ok (.ireturn, 1) := by decide +kernel
theorem dX6_allows_11 : decode cX6_allows 11 = .ok (.iload_n 1, 1) := by decide +kernel
theorem dX6_allows_12 : decode cX6_allows 12 = .ok (.iconst 1, 1) := by decide +kernel
theorem dX6_allows_13 : decode cX6_allows 13 = .ok (.if_icmp .ne 36, 3) := by decide +kernel
theorem dX6_allows_16 : decode cX6_allows 16 = .ok (.aload_n 0, 1) := by decide +kernel
theorem dX6_allows_17 : decode cX6_allows 17 = .ok (.getfield 21, 3) := by decide +kernel
theorem dX6_allows_20 : decode cX6_allows 20 = .ok (.ifCond .eq 23, 3) := by decide +kernel
theorem dX6_allows_23 : decode cX6_allows 23 = .ok (.aload_n 0, 1) := by decide +kernel
theorem dX6_allows_24 : decode cX6_allows 24 = .ok (.getfield 15, 3) := by decide +kernel
theorem dX6_allows_27 : decode cX6_allows 27 = .ok (.iconst 0, 1) := by decide +kernel
theorem dX6_allows_28 : decode cX6_allows 28 = .ok (.iaload, 1) := by decide +kernel
theorem dX6_allows_29 : decode cX6_allows 29 = .ok (.aload_n 0, 1) := by decide +kernel
theorem dX6_allows_30 : decode cX6_allows 30 = .ok (.getfield 25, 3) := by decide +kernel
theorem dX6_allows_33 : decode cX6_allows 33 = .ok (.aload_n 0, 1) := by decide +kernel
theorem dX6_allows_34 : decode cX6_allows 34 = .ok (.getfield 15, 3) := by decide +kernel
theorem dX6_allows_37 : decode cX6_allows 37 = .ok (.iconst 0, 1) := by decide +kernel
theorem dX6_allows_38 : decode cX6_allows 38 = .ok (.iaload, 1) := by decide +kernel
theorem dX6_allows_39 : decode cX6_allows 39 = .ok (.isub, 1) := by decide +kernel
theorem dX6_allows_40 : decode cX6_allows 40 = .ok (.if_icmp .gt 7, 3) := by decide +kernel
theorem dX6_allows_43 : decode cX6_allows 43 = .ok (.iconst 1, 1) := by decide +kernel
theorem dX6_allows_44 : decode cX6_allows 44 = .ok (.goto 4, 3) := by decide +kernel
theorem dX6_allows_47 : decode cX6_allows 47 = .ok (.iconst 0, 1) := by decide +kernel
theorem dX6_allows_48 : decode cX6_allows 48 = .ok (.ireturn, 1) := by decide +kernel
theorem dX6_allows_49 : decode cX6_allows 49 = .ok (.iload_n 1, 1) := by decide +kernel
theorem dX6_allows_50 : decode cX6_allows 50 = .ok (.iconst 2, 1) := by decide +kernel
theorem dX6_allows_51 : decode cX6_allows 51 = .ok (.if_icmp .ne 10, 3) := by decide +kernel
theorem dX6_allows_54 : decode cX6_allows 54 = .ok (.aload_n 0, 1) := by decide +kernel
theorem dX6_allows_55 : decode cX6_allows 55 = .ok (.invokevirtual 58, 3) := by decide +kernel
theorem dX6_allows_58 : decode cX6_allows 58 = .ok (.ifCond .eq 7, 3) := by decide +kernel
theorem dX6_allows_61 : decode cX6_allows 61 = .ok (.iconst 1, 1) := by decide +kernel
theorem dX6_allows_62 : decode cX6_allows 62 = .ok (.goto 4, 3) := by decide +kernel
theorem dX6_allows_65 : decode cX6_allows 65 = .ok (.iconst 0, 1) := by decide +kernel
theorem dX6_allows_66 : decode cX6_allows 66 = .ok (.ireturn, 1) := by decide +kernel
theorem dX6_hasNoNegativeSlack_0 : decode cX6_hasNoNegativeSlack 0 = .ok (.iconst 1, 1) := by decide +kernel
theorem dX6_hasNoNegativeSlack_1 : decode cX6_hasNoNegativeSlack 1 = .ok (.istore_n 1, 1) := by decide +kernel
theorem dX6_hasNoNegativeSlack_2 : decode cX6_hasNoNegativeSlack 2 = .ok (.iload_n 1, 1) := by decide +kernel
theorem dX6_hasNoNegativeSlack_3 : decode cX6_hasNoNegativeSlack 3 = .ok (.aload_n 0, 1) := by decide +kernel
theorem dX6_hasNoNegativeSlack_4 : decode cX6_hasNoNegativeSlack 4 = .ok (.getfield 21, 3) := by decide +kernel
theorem dX6_hasNoNegativeSlack_7 : decode cX6_hasNoNegativeSlack 7 = .ok (.if_icmp .gt 19, 3) := by decide +kernel
theorem dX6_hasNoNegativeSlack_10 : decode cX6_hasNoNegativeSlack 10 = .ok (.aload_n 0, 1) := by decide +kernel
theorem dX6_hasNoNegativeSlack_11 : decode cX6_hasNoNegativeSlack 11 = .ok (.iload_n 1, 1) := by decide +kernel
theorem dX6_hasNoNegativeSlack_12 : decode cX6_hasNoNegativeSlack 12 = .ok (.invokevirtual 61, 3) := by decide +kernel
theorem dX6_hasNoNegativeSlack_15 : decode cX6_hasNoNegativeSlack 15 = .ok (.ifCond .ge 5, 3) := by decide +kernel
theorem dX6_hasNoNegativeSlack_18 : decode cX6_hasNoNegativeSlack 18 = .ok (.iconst 0, 1) := by decide +kernel
theorem dX6_hasNoNegativeSlack_19 : decode cX6_hasNoNegativeSlack 19 = .ok (.ireturn, 1) := by decide +kernel
theorem dX6_hasNoNegativeSlack_20 : decode cX6_hasNoNegativeSlack 20 = .ok (.iinc 1 1, 3) := by decide +kernel
theorem dX6_hasNoNegativeSlack_23 : decode cX6_hasNoNegativeSlack 23 = .ok (.goto (-21), 3) := by decide +kernel
theorem dX6_hasNoNegativeSlack_26 : decode cX6_hasNoNegativeSlack 26 = .ok (.iconst 1, 1) := by decide +kernel
theorem dX6_hasNoNegativeSlack_27 : decode cX6_hasNoNegativeSlack 27 = .ok (.ireturn, 1) := by decide +kernel
theorem dX6_build_0 : decode cX6_build 0 = .ok (.aload_n 1, 1) := by decide +kernel
theorem dX6_build_1 : decode cX6_build 1 = .ok (.aload_n 0, 1) := by decide +kernel
theorem dX6_build_2 : decode cX6_build 2 = .ok (.getfield 21, 3) := by decide +kernel
theorem dX6_build_5 : decode cX6_build 5 = .ok (.invokevirtual 64, 3) := by decide +kernel
theorem dX6_build_8 : decode cX6_build 8 = .ok (.iconst 0, 1) := by decide +kernel
theorem dX6_build_9 : decode cX6_build 9 = .ok (.istore_n 3, 1) := by decide +kernel
theorem dX6_build_10 : decode cX6_build 10 = .ok (.iload_n 3, 1) := by decide +kernel
theorem dX6_build_11 : decode cX6_build 11 = .ok (.aload_n 0, 1) := by decide +kernel
theorem dX6_build_12 : decode cX6_build 12 = .ok (.getfield 21, 3) := by decide +kernel
theorem dX6_build_15 : decode cX6_build 15 = .ok (.if_icmp .ge 21, 3) := by decide +kernel
theorem dX6_build_18 : decode cX6_build 18 = .ok (.aload_n 0, 1) := by decide +kernel
theorem dX6_build_19 : decode cX6_build 19 = .ok (.getfield 18, 3) := by decide +kernel
theorem dX6_build_22 : decode cX6_build 22 = .ok (.iload_n 3, 1) := by decide +kernel
theorem dX6_build_23 : decode cX6_build 23 = .ok (.aload_n 0, 1) := by decide +kernel
theorem dX6_build_24 : decode cX6_build 24 = .ok (.getfield 9, 3) := by decide +kernel
theorem dX6_build_27 : decode cX6_build 27 = .ok (.iload_n 3, 1) := by decide +kernel
theorem dX6_build_28 : decode cX6_build 28 = .ok (.iaload, 1) := by decide +kernel
theorem dX6_build_29 : decode cX6_build 29 = .ok (.iastore, 1) := by decide +kernel
theorem dX6_build_30 : decode cX6_build 30 = .ok (.iinc 3 1, 3) := by decide +kernel
theorem dX6_build_33 : decode cX6_build 33 = .ok (.goto (-23), 3) := by decide +kernel
theorem dX6_build_36 : decode cX6_build 36 = .ok (.iload_n 2, 1) := by decide +kernel
theorem dX6_build_37 : decode cX6_build 37 = .ok (.ifCond .ne 11, 3) := by decide +kernel
theorem dX6_build_40 : decode cX6_build 40 = .ok (.aload_n 0, 1) := by decide +kernel
theorem dX6_build_41 : decode cX6_build 41 = .ok (.aload_n 1, 1) := by decide +kernel
theorem dX6_build_42 : decode cX6_build 42 = .ok (.invokevirtual 66, 3) := by decide +kernel
theorem dX6_build_45 : decode cX6_build 45 = .ok (.goto 21, 3) := by decide +kernel
theorem dX6_build_48 : decode cX6_build 48 = .ok (.iload_n 2, 1) := by decide +kernel
theorem dX6_build_49 : decode cX6_build 49 = .ok (.iconst 1, 1) := by decide +kernel
theorem dX6_build_50 : decode cX6_build 50 = .ok (.if_icmp .ne 11, 3) := by decide +kernel
theorem dX6_build_53 : decode cX6_build 53 = .ok (.aload_n 0, 1) := by decide +kernel
theorem dX6_build_54 : decode cX6_build 54 = .ok (.aload_n 1, 1) := by decide +kernel
theorem dX6_build_55 : decode cX6_build 55 = .ok (.invokevirtual 70, 3) := by decide +kernel
theorem dX6_build_58 : decode cX6_build 58 = .ok (.goto 8, 3) := by decide +kernel
theorem dX6_build_61 : decode cX6_build 61 = .ok (.aload_n 0, 1) := by decide +kernel
theorem dX6_build_62 : decode cX6_build 62 = .ok (.aload_n 1, 1) := by decide +kernel
theorem dX6_build_63 : decode cX6_build 63 = .ok (.invokevirtual 73, 3) := by decide +kernel
theorem dX6_build_66 : decode cX6_build 66 = .ok (.return_, 1) := by decide +kernel
theorem dX6_buildWithLoops_0 : decode cX6_buildWithLoops 0 = .ok (.iconst (-1), 1) := by decide +kernel
theorem dX6_buildWithLoops_1 : decode cX6_buildWithLoops 1 = .ok (.istore_n 2, 1) := by decide +kernel
theorem dX6_buildWithLoops_2 : decode cX6_buildWithLoops 2 = .ok (.iconst 0, 1) := by decide +kernel
theorem dX6_buildWithLoops_3 : decode cX6_buildWithLoops 3 = .ok (.istore_n 3, 1) := by decide +kernel
theorem dX6_buildWithLoops_4 : decode cX6_buildWithLoops 4 = .ok (.iload_n 3, 1) := by decide +kernel
theorem dX6_buildWithLoops_5 : decode cX6_buildWithLoops 5 = .ok (.aload_n 0, 1) := by decide +kernel
theorem dX6_buildWithLoops_6 : decode cX6_buildWithLoops 6 = .ok (.getfield 21, 3) := by decide +kernel
theorem dX6_buildWithLoops_9 : decode cX6_buildWithLoops 9 = .ok (.if_icmp .ge 64, 3) := by decide +kernel
theorem dX6_buildWithLoops_12 : decode cX6_buildWithLoops 12 = .ok (.aload_n 1, 1) := by decide +kernel
theorem dX6_buildWithLoops_13 : decode cX6_buildWithLoops 13 = .ok (.iload_n 3, 1) := by decide +kernel
theorem dX6_buildWithLoops_14 : decode cX6_buildWithLoops 14 = .ok (.iload_n 3, 1) := by decide +kernel
