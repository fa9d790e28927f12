theorem dX10_firstStatement_10 : decode cX10_firstStatement 10 = .ok (.invokevirtual 159, 3) := by decide +kernel
theorem dX10_firstStatement_13 : decode cX10_firstStatement 13 = .ok (.ireturn, 1) := by decide +kernel
theorem dX10_firstStatement_14 : decode cX10_firstStatement 14 = .ok (.aload_n 0, 1) := by decide +kernel
theorem dX10_firstStatement_15 : decode cX10_firstStatement 15 = .ok (.ldc 162, 2) := by decide +kernel
theorem dX10_firstStatement_17 : decode cX10_firstStatement 17 = .ok (.invokevirtual 155, 3) := by decide +kernel
theorem dX10_firstStatement_20 : decode cX10_firstStatement 20 = .ok (.ifCond .eq 10, 3) := by decide +kernel
theorem dX10_firstStatement_23 : decode cX10_firstStatement 23 = .ok (.aload_n 0, 1) := by decide +kernel
theorem dX10_firstStatement_24 : decode cX10_firstStatement 24 = .ok (.invokevirtual 164, 3) := by decide +kernel
theorem dX10_firstStatement_27 : decode cX10_firstStatement 27 = .ok (.goto 8, 3) := by decide +kernel
theorem dX10_firstStatement_30 : decode cX10_firstStatement 30 = .ok (.aload_n 0, 1) := by decide +kernel
theorem dX10_firstStatement_31 : decode cX10_firstStatement 31 = .ok (.iconst 2, 1) := by decide +kernel
theorem dX10_firstStatement_32 : decode cX10_firstStatement 32 = .ok (.invokevirtual 125, 3) := by decide +kernel
theorem dX10_firstStatement_35 : decode cX10_firstStatement 35 = .ok (.ireturn, 1) := by decide +kernel
theorem dX10_statement_0 : decode cX10_statement 0 = .ok (.aload_n 0, 1) := by decide +kernel
theorem dX10_statement_1 : decode cX10_statement 1 = .ok (.ldc 167, 2) := by decide +kernel
theorem dX10_statement_3 : decode cX10_statement 3 = .ok (.invokevirtual 155, 3) := by decide +kernel
theorem dX10_statement_6 : decode cX10_statement 6 = .ok (.ifCond .eq 9, 3) := by decide +kernel
theorem dX10_statement_9 : decode cX10_statement 9 = .ok (.aload_n 0, 1) := by decide +kernel
theorem dX10_statement_10 : decode cX10_statement 10 = .ok (.iconst 2, 1) := by decide +kernel
theorem dX10_statement_11 : decode cX10_statement 11 = .ok (.invokevirtual 169, 3) := by decide +kernel
theorem dX10_statement_14 : decode cX10_statement 14 = .ok (.ireturn, 1) := by decide +kernel
theorem dX10_statement_15 : decode cX10_statement 15 = .ok (.aload_n 0, 1) := by decide +kernel
theorem dX10_statement_16 : decode cX10_statement 16 = .ok (.ldc 172, 2) := by decide +kernel
theorem dX10_statement_18 : decode cX10_statement 18 = .ok (.invokevirtual 155, 3) := by decide +kernel
theorem dX10_statement_21 : decode cX10_statement 21 = .ok (.ifCond .eq 10, 3) := by decide +kernel
theorem dX10_statement_24 : decode cX10_statement 24 = .ok (.aload_n 0, 1) := by decide +kernel
theorem dX10_statement_25 : decode cX10_statement 25 = .ok (.bipush 66, 2) := by decide +kernel
theorem dX10_statement_27 : decode cX10_statement 27 = .ok (.invokevirtual 169, 3) := by decide +kernel
theorem dX10_statement_30 : decode cX10_statement 30 = .ok (.ireturn, 1) := by decide +kernel
theorem dX10_statement_31 : decode cX10_statement 31 = .ok (.aload_n 0, 1) := by decide +kernel
theorem dX10_statement_32 : decode cX10_statement 32 = .ok (.ldc 174, 2) := by decide +kernel
theorem dX10_statement_34 : decode cX10_statement 34 = .ok (.invokevirtual 155, 3) := by decide +kernel
theorem dX10_statement_37 : decode cX10_statement 37 = .ok (.ifCond .eq 10, 3) := by decide +kernel
theorem dX10_statement_40 : decode cX10_statement 40 = .ok (.aload_n 0, 1) := by decide +kernel
theorem dX10_statement_41 : decode cX10_statement 41 = .ok (.invokevirtual 176, 3) := by decide +kernel
theorem dX10_statement_44 : decode cX10_statement 44 = .ok (.goto 8, 3) := by decide +kernel
theorem dX10_statement_47 : decode cX10_statement 47 = .ok (.aload_n 0, 1) := by decide +kernel
theorem dX10_statement_48 : decode cX10_statement 48 = .ok (.iconst 2, 1) := by decide +kernel
theorem dX10_statement_49 : decode cX10_statement 49 = .ok (.invokevirtual 125, 3) := by decide +kernel
theorem dX10_statement_52 : decode cX10_statement 52 = .ok (.ireturn, 1) := by decide +kernel
theorem dX10_parse_0 : decode cX10_parse 0 = .ok (.aload_n 0, 1) := by decide +kernel
theorem dX10_parse_1 : decode cX10_parse 1 = .ok (.iload_n 1, 1) := by decide +kernel
theorem dX10_parse_2 : decode cX10_parse 2 = .ok (.putfield 78, 3) := by decide +kernel
theorem dX10_parse_5 : decode cX10_parse 5 = .ok (.aload_n 0, 1) := by decide +kernel
theorem dX10_parse_6 : decode cX10_parse 6 = .ok (.iconst 0, 1) := by decide +kernel
theorem dX10_parse_7 : decode cX10_parse 7 = .ok (.putfield 71, 3) := by decide +kernel
theorem dX10_parse_10 : decode cX10_parse 10 = .ok (.aload_n 0, 1) := by decide +kernel
theorem dX10_parse_11 : decode cX10_parse 11 = .ok (.iconst 0, 1) := by decide +kernel
theorem dX10_parse_12 : decode cX10_parse 12 = .ok (.putfield 81, 3) := by decide +kernel
theorem dX10_parse_15 : decode cX10_parse 15 = .ok (.aload_n 0, 1) := by decide +kernel
theorem dX10_parse_16 : decode cX10_parse 16 = .ok (.iconst 0, 1) := by decide +kernel
theorem dX10_parse_17 : decode cX10_parse 17 = .ok (.putfield 119, 3) := by decide +kernel
theorem dX10_parse_20 : decode cX10_parse 20 = .ok (.aload_n 0, 1) := by decide +kernel
theorem dX10_parse_21 : decode cX10_parse 21 = .ok (.iconst (-1), 1) := by decide +kernel
theorem dX10_parse_22 : decode cX10_parse 22 = .ok (.putfield 122, 3) := by decide +kernel
theorem dX10_parse_25 : decode cX10_parse 25 = .ok (.iconst 0, 1) := by decide +kernel
theorem dX10_parse_26 : decode cX10_parse 26 = .ok (.istore_n 2, 1) := by decide +kernel
theorem dX10_parse_27 : decode cX10_parse 27 = .ok (.iload_n 2, 1) := by decide +kernel
theorem dX10_parse_28 : decode cX10_parse 28 = .ok (.sipush 130, 3) := by decide +kernel
theorem dX10_parse_31 : decode cX10_parse 31 = .ok (.if_icmp .ge 16, 3) := by decide +kernel
theorem dX10_parse_34 : decode cX10_parse 34 = .ok (.aload_n 0, 1) := by decide +kernel
theorem dX10_parse_35 : decode cX10_parse 35 = .ok (.getfield 7, 3) := by decide +kernel
theorem dX10_parse_38 : decode cX10_parse 38 = .ok (.iload_n 2, 1) := by decide +kernel
theorem dX10_parse_39 : decode cX10_parse 39 = .ok (.iconst 0, 1) := by decide +kernel
theorem dX10_parse_40 : decode cX10_parse 40 = .ok (.iastore, 1) := by decide +kernel
theorem dX10_parse_41 : decode cX10_parse 41 = .ok (.iinc 2 1, 3) := by decide +kernel
theorem dX10_parse_44 : decode cX10_parse 44 = .ok (.goto (-17), 3) := by decide +kernel
theorem dX10_parse_47 : decode cX10_parse 47 = .ok (.aload_n 0, 1) := by decide +kernel
theorem dX10_parse_48 : decode cX10_parse 48 = .ok (.getfield 7, 3) := by decide +kernel
theorem dX10_parse_51 : decode cX10_parse 51 = .ok (.iconst 0, 1) := by decide +kernel
theorem dX10_parse_52 : decode cX10_parse 52 = .ok (.iconst 1, 1) := by decide +kernel
theorem dX10_parse_53 : decode cX10_parse 53 = .ok (.iastore, 1) := by decide +kernel
theorem dX10_parse_54 : decode cX10_parse 54 = .ok (.aload_n 0, 1) := by decide +kernel
theorem dX10_parse_55 : decode cX10_parse 55 = .ok (.invokevirtual 135, 3) := by decide +kernel
theorem dX10_parse_58 : decode cX10_parse 58 = .ok (.pop, 1) := by decide +kernel
theorem dX10_parse_59 : decode cX10_parse 59 = .ok (.aload_n 0, 1) := by decide +kernel
theorem dX10_parse_60 : decode cX10_parse 60 = .ok (.getfield 95, 3) := by decide +kernel
theorem dX10_parse_63 : decode cX10_parse 63 = .ok (.ifCond .eq 17, 3) := by decide +kernel
theorem dX10_parse_66 : decode cX10_parse 66 = .ok (.aload_n 0, 1) := by decide +kernel
theorem dX10_parse_67 : decode cX10_parse 67 = .ok (.invokevirtual 179, 3) := by decide +kernel
theorem dX10_parse_70 : decode cX10_parse 70 = .ok (.ifCond .eq 14, 3) := by decide +kernel
theorem dX10_parse_73 : decode cX10_parse 73 = .ok (.aload_n 0, 1) := by decide +kernel
theorem dX10_parse_74 : decode cX10_parse 74 = .ok (.invokevirtual 182, 3) := by decide +kernel
theorem dX10_parse_77 : decode cX10_parse 77 = .ok (.ifCond .eq 7, 3) := by decide +kernel
theorem dX10_parse_80 : decode cX10_parse 80 = .ok (.iconst 1, 1) := by decide +kernel
theorem dX10_parse_81 : decode cX10_parse 81 = .ok (.goto 4, 3) := by decide +kernel
theorem dX10_parse_84 : decode cX10_parse 84 = .ok (.iconst 0, 1) := by decide +kernel
theorem dX10_parse_85 : decode cX10_parse 85 = .ok (.istore_n 2, 1) := by decide +kernel
theorem dX10_parse_86 : decode cX10_parse 86 = .ok (.iload_n 2, 1) := by decide +kernel
theorem dX10_parse_87 : decode cX10_parse 87 = .ok (.ifCond .eq 33, 3) := by decide +kernel
theorem dX10_parse_90 : decode cX10_parse 90 = .ok (.aload_n 0, 1) := by decide +kernel
theorem dX10_parse_91 : decode cX10_parse 91 = .ok (.getfield 95, 3) := by decide +kernel
theorem dX10_parse_94 : decode cX10_parse 94 = .ok (.ifCond .eq 26, 3) := by decide +kernel
theorem dX10_parse_97 : decode cX10_parse 97 = .ok (.aload_n 0, 1) := by decide +kernel
theorem dX10_parse_98 : decode cX10_parse 98 = .ok (.invokevirtual 185, 3) := by decide +kernel
theorem dX10_parse_101 : decode cX10_parse 101 = .ok (.ifCond .eq 14, 3) := by decide +kernel
theorem dX10_parse_104 : decode cX10_parse 104 = .ok (.aload_n 0, 1) := by decide +kernel
theorem dX10_parse_105 : decode cX10_parse 105 = .ok (.invokevirtual 182, 3) := by decide +kernel
theorem dX10_parse_108 : decode cX10_parse 108 = .ok (.ifCond .eq 7, 3) := by decide +kernel
theorem dX10_parse_111 : decode cX10_parse 111 = .ok (.iconst 1, 1) := by decide +kernel
theorem dX10_parse_112 : decode cX10_parse 112 = .ok (.goto 4, 3) := by decide +kernel
theorem dX10_parse_115 : decode cX10_parse 115 = .ok (.iconst 0, 1) := by decide +kernel
theorem dX10_parse_116 : decode cX10_parse 116 = .ok (.istore_n 2, 1) := by decide +kernel
theorem dX10_parse_117 : decode cX10_parse 117 = .ok (.goto (-31), 3) := by decide +kernel
theorem dX10_parse_120 : decode cX10_parse 120 = .ok (.iload_n 2, 1) := by decide +kernel
theorem dX10_parse_121 : decode cX10_parse 121 = .ok (.ireturn, 1) := by decide +kernel
theorem dX10_load_0 : decode cX10_load 0 = .ok (.aload_n 0, 1) := by decide +kernel
theorem dX10_load_1 : decode cX10_load 1 = .ok (.iload_n 1, 1) := by decide +kernel
theorem dX10_load_2 : decode cX10_load 2 = .ok (.iconst 0, 1) := by decide +kernel
theorem dX10_load_3 : decode cX10_load 3 = .ok (.aload_n 0, 1) := by decide +kernel
theorem dX10_load_4 : decode cX10_load 4 = .ok (.getfield 71, 3) := by decide +kernel
theorem dX10_load_7 : decode cX10_load 7 = .ok (.invokestatic 128, 3) := by decide +kernel
theorem dX10_load_10 : decode cX10_load 10 = .ok (.invokevirtual 188, 3) := by decide +kernel
theorem dX10_load_13 : decode cX10_load 13 = .ok (.ifCond .ne 5, 3) := by decide +kernel
theorem dX10_load_16 : decode cX10_load 16 = .ok (.iconst 0, 1) := by decide +kernel
theorem dX10_load_17 : decode cX10_load 17 = .ok (.ireturn, 1) := by decide +kernel
theorem dX10_load_18 : decode cX10_load 18 = .ok (.aload_n 0, 1) := by decide +kernel
theorem dX10_load_19 : decode cX10_load 19 = .ok (.invokevirtual 191, 3) := by decide +kernel
theorem dX10_load_22 : decode cX10_load 22 = .ok (.aload_n 0, 1) := by decide +kernel
theorem dX10_load_23 : decode cX10_load 23 = .ok (.iload_n 1, 1) := by decide +kernel
theorem dX10_load_24 : decode cX10_load 24 = .ok (.invokevirtual 194, 3) := by decide +kernel
theorem dX10_load_27 : decode cX10_load 27 = .ok (.istore_n 2, 1) := by decide +kernel
theorem dX10_load_28 : decode cX10_load 28 = .ok (.aload_n 0, 1) := by decide +kernel
theorem dX10_load_29 : decode cX10_load 29 = .ok (.aload_n 0, 1) := by decide +kernel
theorem dX10_load_30 : decode cX10_load 30 = .ok (.getfield 119, 3) := by decide +kernel
theorem dX10_load_33 : decode cX10_load 33 = .ok (.putfield 197, 3) := by decide +kernel
theorem dX10_load_36 : decode cX10_load 36 = .ok (.aload_n 0, 1) := by decide +kernel
theorem dX10_load_37 : decode cX10_load 37 = .ok (.aload_n 0, 1) := by decide +kernel
theorem dX10_load_38 : decode cX10_load 38 = .ok (.getfield 122, 3) := by decide +kernel
theorem dX10_load_41 : decode cX10_load 41 = .ok (.putfield 22, 3) := by decide +kernel
theorem dX10_load_44 : decode cX10_load 44 = .ok (.iload_n 2, 1) := by decide +kernel
theorem dX10_load_45 : decode cX10_load 45 = .ok (.ifCond .ne 10, 3) := by decide +kernel
theorem dX10_load_48 : decode cX10_load 48 = .ok (.aload_n 0, 1) := by decide +kernel
theorem dX10_load_49 : decode cX10_load 49 = .ok (.invokevirtual 200, 3) := by decide +kernel
theorem dX10_load_52 : decode cX10_load 52 = .ok (.bipush (-3), 2) := by decide +kernel
theorem dX10_load_54 : decode cX10_load 54 = .ok (.ireturn, 1) := by decide +kernel
theorem dX10_load_55 : decode cX10_load 55 = .ok (.aload_n 0, 1) := by decide +kernel
theorem dX10_load_56 : decode cX10_load 56 = .ok (.iconst 0, 1) := by decide +kernel
theorem dX10_load_57 : decode cX10_load 57 = .ok (.putfield 61, 3) := by decide +kernel
theorem dX10_load_60 : decode cX10_load 60 = .ok (.aload_n 0, 1) := by decide +kernel
theorem dX10_load_61 : decode cX10_load 61 = .ok (.iconst 2, 1) := by decide +kernel
theorem dX10_load_62 : decode cX10_load 62 = .ok (.invokevirtual 146, 3) := by decide +kernel
theorem dX10_load_65 : decode cX10_load 65 = .ok (.ireturn, 1) := by decide +kernel
theorem dX10_errorKind_0 : decode cX10_errorKind 0 = .ok (.aload_n 0, 1) := by decide +kernel
theorem dX10_errorKind_1 : decode cX10_errorKind 1 = .ok (.iconst 0, 1) := by decide +kernel
theorem dX10_errorKind_2 : decode cX10_errorKind 2 = .ok (.putfield 54, 3) := by decide +kernel
theorem dX10_errorKind_5 : decode cX10_errorKind 5 = .ok (.aload_n 0, 1) := by decide +kernel
theorem dX10_errorKind_6 : decode cX10_errorKind 6 = .ok (.getfield 197, 3) := by decide +kernel
theorem dX10_errorKind_9 : decode cX10_errorKind 9 = .ok (.ireturn, 1) := by decide +kernel
theorem dX10_errorPosition_0 : decode cX10_errorPosition 0 = .ok (.aload_n 0, 1) := by decide +kernel
theorem dX10_errorPosition_1 : decode cX10_errorPosition 1 = .ok (.iconst 0, 1) := by decide +kernel
theorem dX10_errorPosition_2 : decode cX10_errorPosition 2 = .ok (.putfield 54, 3) := by decide +kernel
theorem dX10_errorPosition_5 : decode cX10_errorPosition 5 = .ok (.aload_n 0, 1) := by decide +kernel
theorem dX10_errorPosition_6 : decode cX10_errorPosition 6 = .ok (.getfield 22, 3) := by decide +kernel
theorem dX10_errorPosition_9 : decode cX10_errorPosition 9 = .ok (.ireturn, 1) := by decide +kernel
theorem dX10_isVertex_0 : decode cX10_isVertex 0 = .ok (.iload_n 1, 1) := by decide +kernel
theorem dX10_isVertex_1 : decode cX10_isVertex 1 = .ok (.iconst 0, 1) := by decide +kernel
theorem dX10_isVertex_2 : decode cX10_isVertex 2 = .ok (.aload_n 0, 1) := by decide +kernel
theorem dX10_isVertex_3 : decode cX10_isVertex 3 = .ok (.getfield 7, 3) := by decide +kernel
theorem dX10_isVertex_6 : decode cX10_isVertex 6 = .ok (.iconst 0, 1) := by decide +kernel
theorem dX10_isVertex_7 : decode cX10_isVertex 7 = .ok (.iaload, 1) := by decide +kernel
theorem dX10_isVertex_8 : decode cX10_isVertex 8 = .ok (.iconst 1, 1) := by decide +kernel
theorem dX10_isVertex_9 : decode cX10_isVertex 9 = .ok (.isub, 1) := by decide +kernel
theorem dX10_isVertex_10 : decode cX10_isVertex 10 = .ok (.invokestatic 128, 3) := by decide +kernel
theorem dX10_isVertex_13 : decode cX10_isVertex 13 = .ok (.ireturn, 1) := by decide +kernel
theorem dX10_areVertices_0 : decode cX10_areVertices 0 = .ok (.aload_n 0, 1) := by decide +kernel
theorem dX10_areVertices_1 : decode cX10_areVertices 1 = .ok (.iload_n 1, 1) := by decide +kernel
theorem dX10_areVertices_2 : decode cX10_areVertices 2 = .ok (.invokevirtual 203, 3) := by decide +kernel
theorem dX10_areVertices_5 : decode cX10_areVertices 5 = .ok (.ifCond .eq 15, 3) := by decide +kernel
theorem dX10_areVertices_8 : decode cX10_areVertices 8 = .ok (.aload_n 0, 1) := by decide +kernel
theorem dX10_areVertices_9 : decode cX10_areVertices 9 = .ok (.iload_n 2, 1) := by decide +kernel
theorem dX10_areVertices_10 : decode cX10_areVertices 10 = .ok (.invokevirtual 203, 3) := by decide +kernel
theorem dX10_areVertices_13 : decode cX10_areVertices 13 = .ok (.ifCond .eq 7, 3) := by decide +kernel
theorem dX10_areVertices_16 : decode cX10_areVertices 16 = .ok (.iconst 1, 1) := by decide +kernel
theorem dX10_areVertices_17 : decode cX10_areVertices 17 = .ok (.goto 4, 3) := by decide +kernel
theorem dX10_areVertices_20 : decode cX10_areVertices 20 = .ok (.iconst 0, 1) := by decide +kernel
theorem dX10_areVertices_21 : decode cX10_areVertices 21 = .ok (.ireturn, 1) := by decide +kernel
theorem dX10_vertices_0 : decode cX10_vertices 0 = .ok (.aload_n 0, 1) := by decide +kernel
theorem dX10_vertices_1 : decode cX10_vertices 1 = .ok (.iconst 0, 1) := by decide +kernel
theorem dX10_vertices_2 : decode cX10_vertices 2 = .ok (.putfield 54, 3) := by decide +kernel
theorem dX10_vertices_5 : decode cX10_vertices 5 = .ok (.aload_n 0, 1) := by decide +kernel
theorem dX10_vertices_6 : decode cX10_vertices 6 = .ok (.getfield 7, 3) := by decide +kernel
theorem dX10_vertices_9 : decode cX10_vertices 9 = .ok (.iconst 0, 1) := by decide +kernel
theorem dX10_vertices_10 : decode cX10_vertices 10 = .ok (.iaload, 1) := by decide +kernel
theorem dX10_vertices_11 : decode cX10_vertices 11 = .ok (.ireturn, 1) := by decide +kernel
theorem dX10_mode_0 : decode cX10_mode 0 = .ok (.aload_n 0, 1) := by decide +kernel
theorem dX10_mode_1 : decode cX10_mode 1 = .ok (.iconst 0, 1) := by decide +kernel
theorem dX10_mode_2 : decode cX10_mode 2 = .ok (.putfield 54, 3) := by decide +kernel
theorem dX10_mode_5 : decode cX10_mode 5 = .ok (.aload_n 0, 1) := by decide +kernel
theorem dX10_mode_6 : decode cX10_mode 6 = .ok (.getfield 7, 3) := by decide +kernel
theorem dX10_mode_9 : decode cX10_mode 9 = .ok (.iconst 1, 1) := by decide +kernel
theorem dX10_mode_10 : decode cX10_mode 10 = .ok (.iaload, 1) := by decide +kernel
theorem dX10_mode_11 : decode cX10_mode 11 = .ok (.ireturn, 1) := by decide +kernel
theorem dX10_table_0 : decode cX10_table 0 = .ok (.iload_n 0, 1) := by decide +kernel
theorem dX10_table_1 : decode cX10_table 1 = .ok (.ifCond .eq 8, 3) := by decide +kernel
theorem dX10_table_4 : decode cX10_table 4 = .ok (.bipush 66, 2) := by decide +kernel
theorem dX10_table_6 : decode cX10_table 6 = .ok (.goto 4, 3) := by decide +kernel
theorem dX10_table_9 : decode cX10_table 9 = .ok (.iconst 2, 1) := by decide +kernel
theorem dX10_table_10 : decode cX10_table 10 = .ok (.ireturn, 1) := by decide +kernel
theorem dX10_edges_0 : decode cX10_edges 0 = .ok (.aload_n 0, 1) := by decide +kernel
theorem dX10_edges_1 : decode cX10_edges 1 = .ok (.iconst 0, 1) := by decide +kernel
theorem dX10_edges_2 : decode cX10_edges 2 = .ok (.putfield 54, 3) := by decide +kernel
theorem dX10_edges_5 : decode cX10_edges 5 = .ok (.aload_n 0, 1) := by decide +kernel
theorem dX10_edges_6 : decode cX10_edges 6 = .ok (.iload_n 1, 1) := by decide +kernel
theorem dX10_edges_7 : decode cX10_edges 7 = .ok (.invokestatic 206, 3) := by decide +kernel
theorem dX10_edges_10 : decode cX10_edges 10 = .ok (.invokevirtual 146, 3) := by decide +kernel
theorem dX10_edges_13 : decode cX10_edges 13 = .ok (.ireturn, 1) := by decide +kernel
theorem dX10_times_0 : decode cX10_times 0 = .ok (.aload_n 0, 1) := by decide +kernel
theorem dX10_times_1 : decode cX10_times 1 = .ok (.aload_n 0, 1) := by decide +kernel
theorem dX10_times_2 : decode cX10_times 2 = .ok (.iload_n 1, 1) := by decide +kernel
theorem dX10_times_3 : decode cX10_times 3 = .ok (.iload_n 2, 1) := by decide +kernel
theorem dX10_times_4 : decode cX10_times 4 = .ok (.invokevirtual 210, 3) := by decide +kernel
theorem dX10_times_7 : decode cX10_times 7 = .ok (.invokevirtual 188, 3) := by decide +kernel
theorem dX10_times_10 : decode cX10_times 10 = .ok (.ifCond .eq 16, 3) := by decide +kernel
theorem dX10_times_13 : decode cX10_times 13 = .ok (.aload_n 0, 1) := by decide +kernel
theorem dX10_times_14 : decode cX10_times 14 = .ok (.iload_n 3, 1) := by decide +kernel
theorem dX10_times_15 : decode cX10_times 15 = .ok (.invokestatic 206, 3) := by decide +kernel
theorem dX10_times_18 : decode cX10_times 18 = .ok (.iload_n 1, 1) := by decide +kernel
theorem dX10_times_19 : decode cX10_times 19 = .ok (.iload_n 2, 1) := by decide +kernel
theorem dX10_times_20 : decode cX10_times 20 = .ok (.invokevirtual 68, 3) := by decide +kernel
theorem dX10_times_23 : decode cX10_times 23 = .ok (.goto 4, 3) := by decide +kernel
theorem dX10_times_26 : decode cX10_times 26 = .ok (.iconst 0, 1) := by decide +kernel
theorem dX10_times_27 : decode cX10_times 27 = .ok (.ireturn, 1) := by decide +kernel
theorem dX10_degree_0 : decode cX10_degree 0 = .ok (.aload_n 0, 1) := by decide +kernel
theorem dX10_degree_1 : decode cX10_degree 1 = .ok (.aload_n 0, 1) := by decide +kernel
theorem dX10_degree_2 : decode cX10_degree 2 = .ok (.iload_n 1, 1) := by decide +kernel
theorem dX10_degree_3 : decode cX10_degree 3 = .ok (.invokevirtual 203, 3) := by decide +kernel
theorem dX10_degree_6 : decode cX10_degree 6 = .ok (.invokevirtual 188, 3) := by decide +kernel
theorem dX10_degree_9 : decode cX10_degree 9 = .ok (.ifCond .eq 15, 3) := by decide +kernel
theorem dX10_degree_12 : decode cX10_degree 12 = .ok (.aload_n 0, 1) := by decide +kernel
theorem dX10_degree_13 : decode cX10_degree 13 = .ok (.iload_n 2, 1) := by decide +kernel
theorem dX10_degree_14 : decode cX10_degree 14 = .ok (.invokestatic 206, 3) := by decide +kernel
theorem dX10_degree_17 : decode cX10_degree 17 = .ok (.iload_n 1, 1) := by decide +kernel
theorem dX10_degree_18 : decode cX10_degree 18 = .ok (.invokevirtual 213, 3) := by decide +kernel
theorem dX10_degree_21 : decode cX10_degree 21 = .ok (.goto 4, 3) := by decide +kernel
theorem dX10_degree_24 : decode cX10_degree 24 = .ok (.iconst 0, 1) := by decide +kernel
theorem dX10_degree_25 : decode cX10_degree 25 = .ok (.ireturn, 1) := by decide +kernel
theorem dX10_loopsNow_0 : decode cX10_loopsNow 0 = .ok (.iconst 0, 1) := by decide +kernel
theorem dX10_loopsNow_1 : decode cX10_loopsNow 1 = .ok (.istore_n 1, 1) := by decide +kernel
theorem dX10_loopsNow_2 : decode cX10_loopsNow 2 = .ok (.iconst 0, 1) := by decide +kernel
theorem dX10_loopsNow_3 : decode cX10_loopsNow 3 = .ok (.istore_n 2, 1) := by decide +kernel
theorem dX10_loopsNow_4 : decode cX10_loopsNow 4 = .ok (.iload_n 2, 1) := by decide +kernel
theorem dX10_loopsNow_5 : decode cX10_loopsNow 5 = .ok (.bipush 8, 2) := by decide +kernel
theorem dX10_loopsNow_7 : decode cX10_loopsNow 7 = .ok (.if_icmp .ge 19, 3) := by decide +kernel
theorem dX10_loopsNow_10 : decode cX10_loopsNow 10 = .ok (.iload_n 1, 1) := by decide +kernel
theorem dX10_loopsNow_11 : decode cX10_loopsNow 11 = .ok (.aload_n 0, 1) := by decide +kernel
theorem dX10_loopsNow_12 : decode cX10_loopsNow 12 = .ok (.iconst 2, 1) := by decide +kernel
theorem dX10_loopsNow_13 : decode cX10_loopsNow 13 = .ok (.iload_n 2, 1) := by decide +kernel
theorem dX10_loopsNow_14 : decode cX10_loopsNow 14 = .ok (.iload_n 2, 1) := by decide +kernel
theorem dX10_loopsNow_15 : decode cX10_loopsNow 15 = .ok (.invokevirtual 68, 3) := by decide +kernel
theorem dX10_loopsNow_18 : decode cX10_loopsNow 18 = .ok (.iadd, 1) := by decide +kernel
theorem dX10_loopsNow_19 : decode cX10_loopsNow 19 = .ok (.istore_n 1, 1) := by decide +kernel
theorem dX10_loopsNow_20 : decode cX10_loopsNow 20 = .ok (.iinc 2 1, 3) := by decide +kernel
theorem dX10_loopsNow_23 : decode cX10_loopsNow 23 = .ok (.goto (-19), 3) := by decide +kernel
theorem dX10_loopsNow_26 : decode cX10_loopsNow 26 = .ok (.iload_n 1, 1) := by decide +kernel
theorem dX10_loopsNow_27 : decode cX10_loopsNow 27 = .ok (.ireturn, 1) := by decide +kernel
theorem dX10_loops_0 : decode cX10_loops 0 = .ok (.aload_n 0, 1) := by decide +kernel
theorem dX10_loops_1 : decode cX10_loops 1 = .ok (.iconst 0, 1) := by decide +kernel
theorem dX10_loops_2 : decode cX10_loops 2 = .ok (.putfield 54, 3) := by decide +kernel
theorem dX10_loops_5 : decode cX10_loops 5 = .ok (.aload_n 0, 1) := by decide +kernel
theorem dX10_loops_6 : decode cX10_loops 6 = .ok (.invokevirtual 217, 3) := by decide +kernel
theorem dX10_loops_9 : decode cX10_loops 9 = .ok (.ireturn, 1) := by decide +kernel
theorem dX10_defectsNow_0 : decode cX10_defectsNow 0 = .ok (.aload_n 0, 1) := by decide +kernel
theorem dX10_defectsNow_1 : decode cX10_defectsNow 1 = .ok (.invokevirtual 217, 3) := by decide +kernel
theorem dX10_defectsNow_4 : decode cX10_defectsNow 4 = .ok (.istore_n 1, 1) := by decide +kernel
theorem dX10_defectsNow_5 : decode cX10_defectsNow 5 = .ok (.iconst 0, 1) := by decide +kernel
theorem dX10_defectsNow_6 : decode cX10_defectsNow 6 = .ok (.istore_n 2, 1) := by decide +kernel
theorem dX10_defectsNow_7 : decode cX10_defectsNow 7 = .ok (.iload_n 2, 1) := by decide +kernel
theorem dX10_defectsNow_8 : decode cX10_defectsNow 8 = .ok (.bipush 8, 2) := by decide +kernel
theorem dX10_defectsNow_10 : decode cX10_defectsNow 10 = .ok (.if_icmp .ge 41, 3) := by decide +kernel
theorem dX10_defectsNow_13 : decode cX10_defectsNow 13 = .ok (.iload_n 2, 1) := by decide +kernel
theorem dX10_defectsNow_14 : decode cX10_defectsNow 14 = .ok (.iconst 1, 1) := by decide +kernel
theorem dX10_defectsNow_15 : decode cX10_defectsNow 15 = .ok (.iadd, 1) := by decide +kernel
theorem dX10_defectsNow_16 : decode cX10_defectsNow 16 = .ok (.istore_n 3, 1) := by decide +kernel
theorem dX10_defectsNow_17 : decode cX10_defectsNow 17 = .ok (.iload_n 3, 1) := by decide +kernel
theorem dX10_defectsNow_18 : decode cX10_defectsNow 18 = .ok (.bipush 8, 2) := by decide +kernel
theorem dX10_defectsNow_20 : decode cX10_defectsNow 20 = .ok (.if_icmp .ge 25, 3) := by decide +kernel
theorem dX10_defectsNow_23 : decode cX10_defectsNow 23 = .ok (.iload_n 1, 1) := by decide +kernel
theorem dX10_defectsNow_24 : decode cX10_defectsNow 24 = .ok (.iconst 0, 1) := by decide +kernel
theorem dX10_defectsNow_25 : decode cX10_defectsNow 25 = .ok (.aload_n 0, 1) := by decide +kernel
theorem dX10_defectsNow_26 : decode cX10_defectsNow 26 = .ok (.iconst 2, 1) := by decide +kernel
theorem dX10_defectsNow_27 : decode cX10_defectsNow 27 = .ok (.iload_n 2, 1) := by decide +kernel
theorem dX10_defectsNow_28 : decode cX10_defectsNow 28 = .ok (.iload_n 3, 1) := by decide +kernel
theorem dX10_defectsNow_29 : decode cX10_defectsNow 29 = .ok (.invokevirtual 68, 3) := by decide +kernel
theorem dX10_defectsNow_32 : decode cX10_defectsNow 32 = .ok (.iconst 1, 1) := by decide +kernel
theorem dX10_defectsNow_33 : decode cX10_defectsNow 33 = .ok (.isub, 1) := by decide +kernel
theorem dX10_defectsNow_34 : decode cX10_defectsNow 34 = .ok (.invokestatic 220, 3) := by decide +kernel
theorem dX10_defectsNow_37 : decode cX10_defectsNow 37 = .ok (.iadd, 1) := by decide +kernel
theorem dX10_defectsNow_38 : decode cX10_defectsNow 38 = .ok (.istore_n 1, 1) := by decide +kernel
theorem dX10_defectsNow_39 : decode cX10_defectsNow 39 = .ok (.iinc 3 1, 3) := by decide +kernel
theorem dX10_defectsNow_42 : decode cX10_defectsNow 42 = .ok (.goto (-25), 3) := by decide +kernel
theorem dX10_defectsNow_45 : decode cX10_defectsNow 45 = .ok (.iinc 2 1, 3) := by decide +kernel
theorem dX10_defectsNow_48 : decode cX10_defectsNow 48 = .ok (.goto (-41), 3) := by decide +kernel
theorem dX10_defectsNow_51 : decode cX10_defectsNow 51 = .ok (.iload_n 1, 1) := by decide +kernel
theorem dX10_defectsNow_52 : decode cX10_defectsNow 52 = .ok (.ireturn, 1) := by decide +kernel
theorem dX10_defects_0 : decode cX10_defects 0 = .ok (.aload_n 0, 1) := by decide +kernel
theorem dX10_defects_1 : decode cX10_defects 1 = .ok (.iconst 0, 1) := by decide +kernel
theorem dX10_defects_2 : decode cX10_defects 2 = .ok (.putfield 54, 3) := by decide +kernel
theorem dX10_defects_5 : decode cX10_defects 5 = .ok (.aload_n 0, 1) := by decide +kernel
theorem dX10_defects_6 : decode cX10_defects 6 = .ok (.invokevirtual 225, 3) := by decide +kernel
theorem dX10_defects_9 : decode cX10_defects 9 = .ok (.ireturn, 1) := by decide +kernel
theorem dX10_isSimple_0 : decode cX10_isSimple 0 = .ok (.aload_n 0, 1) := by decide +kernel
theorem dX10_isSimple_1 : decode cX10_isSimple 1 = .ok (.iconst 0, 1) := by decide +kernel
theorem dX10_isSimple_2 : decode cX10_isSimple 2 = .ok (.putfield 54, 3) := by decide +kernel
theorem dX10_isSimple_5 : decode cX10_isSimple 5 = .ok (.aload_n 0, 1) := by decide +kernel
theorem dX10_isSimple_6 : decode cX10_isSimple 6 = .ok (.invokevirtual 225, 3) := by decide +kernel
theorem dX10_isSimple_9 : decode cX10_isSimple 9 = .ok (.ifCond .ne 7, 3) := by decide +kernel
theorem dX10_isSimple_12 : decode cX10_isSimple 12 = .ok (.iconst 1, 1) := by decide +kernel
theorem dX10_isSimple_13 : decode cX10_isSimple 13 = .ok (.goto 4, 3) := by decide +kernel
theorem dX10_isSimple_16 : decode cX10_isSimple 16 = .ok (.iconst 0, 1) := by decide +kernel
theorem dX10_isSimple_17 : decode cX10_isSimple 17 = .ok (.ireturn, 1) := by decide +kernel
theorem dX10_areJoined_0 : decode cX10_areJoined 0 = .ok (.iload_n 1, 1) := by decide +kernel
theorem dX10_areJoined_1 : decode cX10_areJoined 1 = .ok (.iload_n 2, 1) := by decide +kernel
theorem dX10_areJoined_2 : decode cX10_areJoined 2 = .ok (.if_icmp .eq 17, 3) := by decide +kernel
theorem dX10_areJoined_5 : decode cX10_areJoined 5 = .ok (.aload_n 0, 1) := by decide +kernel
theorem dX10_areJoined_6 : decode cX10_areJoined 6 = .ok (.iconst 2, 1) := by decide +kernel
theorem dX10_areJoined_7 : decode cX10_areJoined 7 = .ok (.iload_n 1, 1) := by decide +kernel
theorem dX10_areJoined_8 : decode cX10_areJoined 8 = .ok (.iload_n 2, 1) := by decide +kernel
theorem dX10_areJoined_9 : decode cX10_areJoined 9 = .ok (.invokevirtual 68, 3) := by decide +kernel
theorem dX10_areJoined_12 : decode cX10_areJoined 12 = .ok (.ifCond .le 7, 3) := by decide +kernel
theorem dX10_areJoined_15 : decode cX10_areJoined 15 = .ok (.iconst 1, 1) := by decide +kernel
theorem dX10_areJoined_16 : decode cX10_areJoined 16 = .ok (.goto 4, 3) := by decide +kernel
theorem dX10_areJoined_19 : decode cX10_areJoined 19 = .ok (.iconst 0, 1) := by decide +kernel
theorem dX10_areJoined_20 : decode cX10_areJoined 20 = .ok (.ireturn, 1) := by decide +kernel
theorem dX10_neighbours_0 : decode cX10_neighbours 0 = .ok (.aload_n 0, 1) := by decide +kernel
theorem dX10_neighbours_1 : decode cX10_neighbours 1 = .ok (.aload_n 0, 1) := by decide +kernel
theorem dX10_neighbours_2 : decode cX10_neighbours 2 = .ok (.iload_n 1, 1) := by decide +kernel
theorem dX10_neighbours_3 : decode cX10_neighbours 3 = .ok (.invokevirtual 203, 3) := by decide +kernel
theorem dX10_neighbours_6 : decode cX10_neighbours 6 = .ok (.invokevirtual 188, 3) := by decide +kernel
theorem dX10_neighbours_9 : decode cX10_neighbours 9 = .ok (.ifCond .ne 5, 3) := by decide +kernel
theorem dX10_neighbours_12 : decode cX10_neighbours 12 = .ok (.iconst 0, 1) := by decide +kernel
theorem dX10_neighbours_13 : decode cX10_neighbours 13 = .ok (.ireturn, 1) := by decide +kernel
theorem dX10_neighbours_14 : decode cX10_neighbours 14 = .ok (.iconst 0, 1) := by decide +kernel
theorem dX10_neighbours_15 : decode cX10_neighbours 15 = .ok (.istore_n 2, 1) := by decide +kernel
theorem dX10_neighbours_16 : decode cX10_neighbours 16 = .ok (.iconst 0, 1) := by decide +kernel
theorem dX10_neighbours_17 : decode cX10_neighbours 17 = .ok (.istore_n 3, 1) := by decide +kernel
theorem dX10_neighbours_18 : decode cX10_neighbours 18 = .ok (.iload_n 3, 1) := by decide +kernel
theorem dX10_neighbours_19 : decode cX10_neighbours 19 = .ok (.bipush 8, 2) := by decide +kernel
theorem dX10_neighbours_21 : decode cX10_neighbours 21 = .ok (.if_icmp .ge 21, 3) := by decide +kernel
theorem dX10_neighbours_24 : decode cX10_neighbours 24 = .ok (.aload_n 0, 1) := by decide +kernel
theorem dX10_neighbours_25 : decode cX10_neighbours 25 = .ok (.iload_n 1, 1) := by decide +kernel
theorem dX10_neighbours_26 : decode cX10_neighbours 26 = .ok (.iload_n 3, 1) := by decide +kernel
theorem dX10_neighbours_27 : decode cX10_neighbours 27 = .ok (.invokevirtual 228, 3) := by decide +kernel
theorem dX10_neighbours_30 : decode cX10_neighbours 30 = .ok (.ifCond .eq 6, 3) := by decide +kernel
theorem dX10_neighbours_33 : decode cX10_neighbours 33 = .ok (.iinc 2 1, 3) := by decide +kernel
theorem dX10_neighbours_36 : decode cX10_neighbours 36 = .ok (.iinc 3 1, 3) := by decide +kernel
theorem dX10_neighbours_39 : decode cX10_neighbours 39 = .ok (.goto (-21), 3) := by decide +kernel
theorem dX10_neighbours_42 : decode cX10_neighbours 42 = .ok (.iload_n 2, 1) := by decide +kernel
theorem dX10_neighbours_43 : decode cX10_neighbours 43 = .ok (.ireturn, 1) := by decide +kernel
theorem dX10_triangles_0 : decode cX10_triangles 0 = .ok (.aload_n 0, 1) := by decide +kernel
theorem dX10_triangles_1 : decode cX10_triangles 1 = .ok (.iconst 0, 1) := by decide +kernel
theorem dX10_triangles_2 : decode cX10_triangles 2 = .ok (.putfield 54, 3) := by decide +kernel
theorem dX10_triangles_5 : decode cX10_triangles 5 = .ok (.iconst 0, 1) := by decide +kernel
theorem dX10_triangles_6 : decode cX10_triangles 6 = .ok (.istore_n 1, 1) := by decide +kernel
theorem dX10_triangles_7 : decode cX10_triangles 7 = .ok (.iconst 0, 1) := by decide +kernel
theorem dX10_triangles_8 : decode cX10_triangles 8 = .ok (.istore_n 2, 1) := by decide +kernel
theorem dX10_triangles_9 : decode cX10_triangles 9 = .ok (.iload_n 2, 1) := by decide +kernel
theorem dX10_triangles_10 : decode cX10_triangles 10 = .ok (.bipush 8, 2) := by decide +kernel
theorem dX10_triangles_12 : decode cX10_triangles 12 = .ok (.if_icmp .ge 75, 3) := by decide +kernel
theorem dX10_triangles_15 : decode cX10_triangles 15 = .ok (.iload_n 2, 1) := by decide +kernel
theorem dX10_triangles_16 : decode cX10_triangles 16 = .ok (.iconst 1, 1) := by decide +kernel
theorem dX10_triangles_17 : decode cX10_triangles 17 = .ok (.iadd, 1) := by decide +kernel
theorem dX10_triangles_18 : decode cX10_triangles 18 = .ok (.istore_n 3, 1) := by decide +kernel
theorem dX10_triangles_19 : decode cX10_triangles 19 = .ok (.iload_n 3, 1) := by decide +kernel
theorem dX10_triangles_20 : decode cX10_triangles 20 = .ok (.bipush 8, 2) := by decide +kernel
theorem dX10_triangles_22 : decode cX10_triangles 22 = .ok (.if_icmp .ge 59, 3) := by decide +kernel
theorem dX10_triangles_25 : decode cX10_triangles 25 = .ok (.iload_n 3, 1) := by decide +kernel
theorem dX10_triangles_26 : decode cX10_triangles 26 = .ok (.iconst 1, 1) := by decide +kernel
theorem dX10_triangles_27 : decode cX10_triangles 27 = .ok (.iadd, 1) := by decide +kernel
theorem dX10_triangles_28 : decode cX10_triangles 28 = .ok (.istore 4, 2) := by decide +kernel
theorem dX10_triangles_30 : decode cX10_triangles 30 = .ok (.iload 4, 2) := by decide +kernel
theorem dX10_triangles_32 : decode cX10_triangles 32 = .ok (.bipush 8, 2) := by decide +kernel
theorem dX10_triangles_34 : decode cX10_triangles 34 = .ok (.if_icmp .ge 41, 3) := by decide +kernel
theorem dX10_triangles_37 : decode cX10_triangles 37 = .ok (.aload_n 0, 1) := by decide +kernel
theorem dX10_triangles_38 : decode cX10_triangles 38 = .ok (.iload_n 2, 1) := by decide +kernel
theorem dX10_triangles_39 : decode cX10_triangles 39 = .ok (.iload_n 3, 1) := by decide +kernel
theorem dX10_triangles_40 : decode cX10_triangles 40 = .ok (.invokevirtual 228, 3) := by decide +kernel
theorem dX10_triangles_43 : decode cX10_triangles 43 = .ok (.ifCond .eq 26, 3) := by decide +kernel
theorem dX10_triangles_46 : decode cX10_triangles 46 = .ok (.aload_n 0, 1) := by decide +kernel
theorem dX10_triangles_47 : decode cX10_triangles 47 = .ok (.iload_n 3, 1) := by decide +kernel
theorem dX10_triangles_48 : decode cX10_triangles 48 = .ok (.iload 4, 2) := by decide +kernel
theorem dX10_triangles_50 : decode cX10_triangles 50 = .ok (.invokevirtual 228, 3) := by decide +kernel
theorem dX10_triangles_53 : decode cX10_triangles 53 = .ok (.ifCond .eq 16, 3) := by decide +kernel
theorem dX10_triangles_56 : decode cX10_triangles 56 = .ok (.aload_n 0, 1) := by decide +kernel
theorem dX10_triangles_57 : decode cX10_triangles 57 = .ok (.iload_n 2, 1) := by decide +kernel
theorem dX10_triangles_58 : decode cX10_triangles 58 = .ok (.iload 4, 2) := by decide +kernel
theorem dX10_triangles_60 : decode cX10_triangles 60 = .ok (.invokevirtual 228, 3) := by decide +kernel
theorem dX10_triangles_63 : decode cX10_triangles 63 = .ok (.ifCond .eq 6, 3) := by decide +kernel
theorem dX10_triangles_66 : decode cX10_triangles 66 = .ok (.iinc 1 1, 3) := by decide +kernel
theorem dX10_triangles_69 : decode cX10_triangles 69 = .ok (.iinc 4 1, 3) := by decide +kernel
theorem dX10_triangles_72 : decode cX10_triangles 72 = .ok (.goto (-42), 3) := by decide +kernel
theorem dX10_triangles_75 : decode cX10_triangles 75 = .ok (.iinc 3 1, 3) := by decide +kernel
theorem dX10_triangles_78 : decode cX10_triangles 78 = .ok (.goto (-59), 3) := by decide +kernel
theorem dX10_triangles_81 : decode cX10_triangles 81 = .ok (.iinc 2 1, 3) := by decide +kernel
theorem dX10_triangles_84 : decode cX10_triangles 84 = .ok (.goto (-75), 3) := by decide +kernel
theorem dX10_triangles_87 : decode cX10_triangles 87 = .ok (.iload_n 1, 1) := by decide +kernel
theorem dX10_triangles_88 : decode cX10_triangles 88 = .ok (.ireturn, 1) := by decide +kernel
theorem dX10_laysParts_0 : decode cX10_laysParts 0 = .ok (.iconst 0, 1) := by decide +kernel
theorem dX10_laysParts_1 : decode cX10_laysParts 1 = .ok (.istore_n 1, 1) := by decide +kernel
theorem dX10_laysParts_2 : decode cX10_laysParts 2 = .ok (.iload_n 1, 1) := by decide +kernel
theorem dX10_laysParts_3 : decode cX10_laysParts 3 = .ok (.bipush 8, 2) := by decide +kernel
theorem dX10_laysParts_5 : decode cX10_laysParts 5 = .ok (.if_icmp .ge 16, 3) := by decide +kernel
theorem dX10_laysParts_8 : decode cX10_laysParts 8 = .ok (.aload_n 0, 1) := by decide +kernel
theorem dX10_laysParts_9 : decode cX10_laysParts 9 = .ok (.getfield 29, 3) := by decide +kernel
theorem dX10_laysParts_12 : decode cX10_laysParts 12 = .ok (.iload_n 1, 1) := by decide +kernel
theorem dX10_laysParts_13 : decode cX10_laysParts 13 = .ok (.iconst (-1), 1) := by decide +kernel
theorem dX10_laysParts_14 : decode cX10_laysParts 14 = .ok (.iastore, 1) := by decide +kernel
theorem dX10_laysParts_15 : decode cX10_laysParts 15 = .ok (.iinc 1 1, 3) := by decide +kernel
theorem dX10_laysParts_18 : decode cX10_laysParts 18 = .ok (.goto (-16), 3) := by decide +kernel
theorem dX10_laysParts_21 : decode cX10_laysParts 21 = .ok (.iconst 0, 1) := by decide +kernel
theorem dX10_laysParts_22 : decode cX10_laysParts 22 = .ok (.istore_n 1, 1) := by decide +kernel
theorem dX10_laysParts_23 : decode cX10_laysParts 23 = .ok (.iconst 0, 1) := by decide +kernel
theorem dX10_laysParts_24 : decode cX10_laysParts 24 = .ok (.istore_n 2, 1) := by decide +kernel
theorem dX10_laysParts_25 : decode cX10_laysParts 25 = .ok (.iload_n 2, 1) := by decide +kernel
theorem dX10_laysParts_26 : decode cX10_laysParts 26 = .ok (.aload_n 0, 1) := by decide +kernel
theorem dX10_laysParts_27 : decode cX10_laysParts 27 = .ok (.getfield 7, 3) := by decide +kernel
theorem dX10_laysParts_30 : decode cX10_laysParts 30 = .ok (.iconst 0, 1) := by decide +kernel
theorem dX10_laysParts_31 : decode cX10_laysParts 31 = .ok (.iaload, 1) := by decide +kernel
theorem dX10_laysParts_32 : decode cX10_laysParts 32 = .ok (.if_icmp .ge 28, 3) := by decide +kernel
theorem dX10_laysParts_35 : decode cX10_laysParts 35 = .ok (.aload_n 0, 1) := by decide +kernel
theorem dX10_laysParts_36 : decode cX10_laysParts 36 = .ok (.getfield 29, 3) := by decide +kernel
theorem dX10_laysParts_39 : decode cX10_laysParts 39 = .ok (.iload_n 2, 1) := by decide +kernel
theorem dX10_laysParts_40 : decode cX10_laysParts 40 = .ok (.iaload, 1) := by decide +kernel
theorem dX10_laysParts_41 : decode cX10_laysParts 41 = .ok (.iconst (-1), 1) := by decide +kernel
theorem dX10_laysParts_42 : decode cX10_laysParts 42 = .ok (.if_icmp .ne 12, 3) := by decide +kernel
theorem dX10_laysParts_45 : decode cX10_laysParts 45 = .ok (.aload_n 0, 1) := by decide +kernel
theorem dX10_laysParts_46 : decode cX10_laysParts 46 = .ok (.iload_n 2, 1) := by decide +kernel
theorem dX10_laysParts_47 : decode cX10_laysParts 47 = .ok (.iload_n 1, 1) := by decide +kernel
theorem dX10_laysParts_48 : decode cX10_laysParts 48 = .ok (.invokevirtual 231, 3) := by decide +kernel
theorem dX10_laysParts_51 : decode cX10_laysParts 51 = .ok (.iinc 1 1, 3) := by decide +kernel
theorem dX10_laysParts_54 : decode cX10_laysParts 54 = .ok (.iinc 2 1, 3) := by decide +kernel
theorem dX10_laysParts_57 : decode cX10_laysParts 57 = .ok (.goto (-32), 3) := by decide +kernel
theorem dX10_laysParts_60 : decode cX10_laysParts 60 = .ok (.iload_n 1, 1) := by decide +kernel
theorem dX10_laysParts_61 : decode cX10_laysParts 61 = .ok (.ireturn, 1) := by decide +kernel
theorem dX10_spreads_0 : decode cX10_spreads 0 = .ok (.aload_n 0, 1) := by decide +kernel
theorem dX10_spreads_1 : decode cX10_spreads 1 = .ok (.getfield 29, 3) := by decide +kernel
theorem dX10_spreads_4 : decode cX10_spreads 4 = .ok (.iload_n 1, 1) := by decide +kernel
theorem dX10_spreads_5 : decode cX10_spreads 5 = .ok (.iload_n 2, 1) := by decide +kernel
theorem dX10_spreads_6 : decode cX10_spreads 6 = .ok (.iastore, 1) := by decide +kernel
theorem dX10_spreads_7 : decode cX10_spreads 7 = .ok (.iconst 1, 1) := by decide +kernel
theorem dX10_spreads_8 : decode cX10_spreads 8 = .ok (.istore_n 3, 1) := by decide +kernel
theorem dX10_spreads_9 : decode cX10_spreads 9 = .ok (.iload_n 3, 1) := by decide +kernel
theorem dX10_spreads_10 : decode cX10_spreads 10 = .ok (.ifCond .eq 91, 3) := by decide +kernel
theorem dX10_spreads_13 : decode cX10_spreads 13 = .ok (.iconst 0, 1) := by decide +kernel
theorem dX10_spreads_14 : decode cX10_spreads 14 = .ok (.istore_n 3, 1) := by decide +kernel
theorem dX10_spreads_15 : decode cX10_spreads 15 = .ok (.iconst 0, 1) := by decide +kernel
theorem dX10_spreads_16 : decode cX10_spreads 16 = .ok (.istore 4, 2) := by decide +kernel
theorem dX10_spreads_18 : decode cX10_spreads 18 = .ok (.iload 4, 2) := by decide +kernel
theorem dX10_spreads_20 : decode cX10_spreads 20 = .ok (.aload_n 0, 1) := by decide +kernel
theorem dX10_spreads_21 : decode cX10_spreads 21 = .ok (.getfield 7, 3) := by decide +kernel
theorem dX10_spreads_24 : decode cX10_spreads 24 = .ok (.iconst 0, 1) := by decide +kernel
theorem dX10_spreads_25 : decode cX10_spreads 25 = .ok (.iaload, 1) := by decide +kernel
theorem dX10_spreads_26 : decode cX10_spreads 26 = .ok (.if_icmp .ge 72, 3) := by decide +kernel
theorem dX10_spreads_29 : decode cX10_spreads 29 = .ok (.iconst 0, 1) := by decide +kernel
theorem dX10_spreads_30 : decode cX10_spreads 30 = .ok (.istore 5, 2) := by decide +kernel
theorem dX10_spreads_32 : decode cX10_spreads 32 = .ok (.iload 5, 2) := by decide +kernel
theorem dX10_spreads_34 : decode cX10_spreads 34 = .ok (.aload_n 0, 1) := by decide +kernel
theorem dX10_spreads_35 : decode cX10_spreads 35 = .ok (.getfield 7, 3) := by decide +kernel
theorem dX10_spreads_38 : decode cX10_spreads 38 = .ok (.iconst 0, 1) := by decide +kernel
theorem dX10_spreads_39 : decode cX10_spreads 39 = .ok (.iaload, 1) := by decide +kernel
theorem dX10_spreads_40 : decode cX10_spreads 40 = .ok (.if_icmp .ge 52, 3) := by decide +kernel
theorem dX10_spreads_43 : decode cX10_spreads 43 = .ok (.aload_n 0, 1) := by decide +kernel
theorem dX10_spreads_44 : decode cX10_spreads 44 = .ok (.getfield 29, 3) := by decide +kernel
theorem dX10_spreads_47 : decode cX10_spreads 47 = .ok (.iload 4, 2) := by decide +kernel
theorem dX10_spreads_49 : decode cX10_spreads 49 = .ok (.iaload, 1) := by decide +kernel
theorem dX10_spreads_50 : decode cX10_spreads 50 = .ok (.iload_n 2, 1) := by decide +kernel
theorem dX10_spreads_51 : decode cX10_spreads 51 = .ok (.if_icmp .ne 35, 3) := by decide +kernel
theorem dX10_spreads_54 : decode cX10_spreads 54 = .ok (.aload_n 0, 1) := by decide +kernel
theorem dX10_spreads_55 : decode cX10_spreads 55 = .ok (.getfield 29, 3) := by decide +kernel
theorem dX10_spreads_58 : decode cX10_spreads 58 = .ok (.iload 5, 2) := by decide +kernel
theorem dX10_spreads_60 : decode cX10_spreads 60 = .ok (.iaload, 1) := by decide +kernel
theorem dX10_spreads_61 : decode cX10_spreads 61 = .ok (.iconst (-1), 1) := by decide +kernel
theorem dX10_spreads_62 : decode cX10_spreads 62 = .ok (.if_icmp .ne 24, 3) := by decide +kernel
theorem dX10_spreads_65 : decode cX10_spreads 65 = .ok (.aload_n 0, 1) := by decide +kernel
theorem dX10_spreads_66 : decode cX10_spreads 66 = .ok (.iload 4, 2) := by decide +kernel
theorem dX10_spreads_68 : decode cX10_spreads 68 = .ok (.iload 5, 2) := by decide +kernel
theorem dX10_spreads_70 : decode cX10_spreads 70 = .ok (.invokevirtual 228, 3) := by decide +kernel
theorem dX10_spreads_73 : decode cX10_spreads 73 = .ok (.ifCond .eq 13, 3) := by decide +kernel
theorem dX10_spreads_76 : decode cX10_spreads 76 = .ok (.aload_n 0, 1) := by decide +kernel
theorem dX10_spreads_77 : decode cX10_spreads 77 = .ok (.getfield 29, 3) := by decide +kernel
theorem dX10_spreads_80 : decode cX10_spreads 80 = .ok (.iload 5, 2) := by decide +kernel
theorem dX10_spreads_82 : decode cX10_spreads 82 = .ok (.iload_n 2, 1) := by decide +kernel
theorem dX10_spreads_83 : decode cX10_spreads 83 = .ok (.iastore, 1) := by decide +kernel
theorem dX10_spreads_84 : decode cX10_spreads 84 = .ok (.iconst 1, 1) := by decide +kernel
theorem dX10_spreads_85 : decode cX10_spreads 85 = .ok (.istore_n 3, 1) := by decide +kernel
theorem dX10_spreads_86 : decode cX10_spreads 86 = .ok (.iinc 5 1, 3) := by decide +kernel
theorem dX10_spreads_89 : decode cX10_spreads 89 = .ok (.goto (-57), 3) := by decide +kernel
theorem dX10_spreads_92 : decode cX10_spreads 92 = .ok (.iinc 4 1, 3) := by decide +kernel
theorem dX10_spreads_95 : decode cX10_spreads 95 = .ok (.goto (-77), 3) := by decide +kernel
theorem dX10_spreads_98 : decode cX10_spreads 98 = .ok (.goto (-89), 3) := by decide +kernel
theorem dX10_spreads_101 : decode cX10_spreads 101 = .ok (.return_, 1) := by decide +kernel
theorem dX10_partsWithEdges_0 : decode cX10_partsWithEdges 0 = .ok (.aload_n 0, 1) := by decide +kernel
theorem dX10_partsWithEdges_1 : decode cX10_partsWithEdges 1 = .ok (.invokevirtual 235, 3) := by decide +kernel
theorem dX10_partsWithEdges_4 : decode cX10_partsWithEdges 4 = .ok (.istore_n 1, 1) := by decide +kernel
theorem dX10_partsWithEdges_5 : decode cX10_partsWithEdges 5 = .ok (.iconst 0, 1) := by decide +kernel
theorem dX10_partsWithEdges_6 : decode cX10_partsWithEdges 6 = .ok (.istore_n 2, 1) := by decide +kernel
theorem dX10_partsWithEdges_7 : decode cX10_partsWithEdges 7 = .ok (.iconst 0, 1) := by decide +kernel
theorem dX10_partsWithEdges_8 : decode cX10_partsWithEdges 8 = .ok (.istore_n 3, 1) := by decide +kernel
theorem dX10_partsWithEdges_9 : decode cX10_partsWithEdges 9 = .ok (.iload_n 3, 1) := by decide +kernel
theorem dX10_partsWithEdges_10 : decode cX10_partsWithEdges 10 = .ok (.iload_n 1, 1) := by decide +kernel
theorem dX10_partsWithEdges_11 : decode cX10_partsWithEdges 11 = .ok (.if_icmp .ge 78, 3) := by decide +kernel
theorem dX10_partsWithEdges_14 : decode cX10_partsWithEdges 14 = .ok (.iconst 0, 1) := by decide +kernel
theorem dX10_partsWithEdges_15 : decode cX10_partsWithEdges 15 = .ok (.istore 4, 2) := by decide +kernel
theorem dX10_partsWithEdges_17 : decode cX10_partsWithEdges 17 = .ok (.iconst 0, 1) := by decide +kernel
theorem dX10_partsWithEdges_18 : decode cX10_partsWithEdges 18 = .ok (.istore 5, 2) := by decide +kernel
theorem dX10_partsWithEdges_20 : decode cX10_partsWithEdges 20 = .ok (.iload 5, 2) := by decide +kernel
theorem dX10_partsWithEdges_22 : decode cX10_partsWithEdges 22 = .ok (.aload_n 0, 1) := by decide +kernel
theorem dX10_partsWithEdges_23 : decode cX10_partsWithEdges 23 = .ok (.getfield 7, 3) := by decide +kernel
theorem dX10_partsWithEdges_26 : decode cX10_partsWithEdges 26 = .ok (.iconst 0, 1) := by decide +kernel
theorem dX10_partsWithEdges_27 : decode cX10_partsWithEdges 27 = .ok (.iaload, 1) := by decide +kernel
theorem dX10_partsWithEdges_28 : decode cX10_partsWithEdges 28 = .ok (.if_icmp .ge 42, 3) := by decide +kernel
theorem dX10_partsWithEdges_31 : decode cX10_partsWithEdges 31 = .ok (.iload 4, 2) := by decide +kernel
theorem dX10_partsWithEdges_33 : decode cX10_partsWithEdges 33 = .ok (.ifCond .ne 24, 3) := by decide +kernel
theorem dX10_partsWithEdges_36 : decode cX10_partsWithEdges 36 = .ok (.aload_n 0, 1) := by decide +kernel
theorem dX10_partsWithEdges_37 : decode cX10_partsWithEdges 37 = .ok (.getfield 29, 3) := by decide +kernel
theorem dX10_partsWithEdges_40 : decode cX10_partsWithEdges 40 = .ok (.iload 5, 2) := by decide +kernel
theorem dX10_partsWithEdges_42 : decode cX10_partsWithEdges 42 = .ok (.iaload, 1) := by decide +kernel
theorem dX10_partsWithEdges_43 : decode cX10_partsWithEdges 43 = .ok (.iload_n 3, 1) := by decide +kernel
theorem dX10_partsWithEdges_44 : decode cX10_partsWithEdges 44 = .ok (.if_icmp .ne 17, 3) := by decide +kernel
theorem dX10_partsWithEdges_47 : decode cX10_partsWithEdges 47 = .ok (.aload_n 0, 1) := by decide +kernel
theorem dX10_partsWithEdges_48 : decode cX10_partsWithEdges 48 = .ok (.iconst 2, 1) := by decide +kernel
theorem dX10_partsWithEdges_49 : decode cX10_partsWithEdges 49 = .ok (.iload 5, 2) := by decide +kernel
theorem dX10_partsWithEdges_51 : decode cX10_partsWithEdges 51 = .ok (.invokevirtual 213, 3) := by decide +kernel
theorem dX10_partsWithEdges_54 : decode cX10_partsWithEdges 54 = .ok (.ifCond .le 7, 3) := by decide +kernel
theorem dX10_partsWithEdges_57 : decode cX10_partsWithEdges 57 = .ok (.iconst 1, 1) := by decide +kernel
theorem dX10_partsWithEdges_58 : decode cX10_partsWithEdges 58 = .ok (.goto 4, 3) := by decide +kernel
theorem dX10_partsWithEdges_61 : decode cX10_partsWithEdges 61 = .ok (.iconst 0, 1) := by decide +kernel
theorem dX10_partsWithEdges_62 : decode cX10_partsWithEdges 62 = .ok (.istore 4, 2) := by decide +kernel
theorem dX10_partsWithEdges_64 : decode cX10_partsWithEdges 64 = .ok (.iinc 5 1, 3) := by decide +kernel
theorem dX10_partsWithEdges_67 : decode cX10_partsWithEdges 67 = .ok (.goto (-47), 3) := by decide +kernel
theorem dX10_partsWithEdges_70 : decode cX10_partsWithEdges 70 = .ok (.iload_n 2, 1) := by decide +kernel
theorem dX10_partsWithEdges_71 : decode cX10_partsWithEdges 71 = .ok (.iload 4, 2) := by decide +kernel
theorem dX10_partsWithEdges_73 : decode cX10_partsWithEdges 73 = .ok (.ifCond .eq 7, 3) := by decide +kernel
theorem dX10_partsWithEdges_76 : decode cX10_partsWithEdges 76 = .ok (.iconst 1, 1) := by decide +kernel
theorem dX10_partsWithEdges_77 : decode cX10_partsWithEdges 77 = .ok (.goto 4, 3) := by decide +kernel
theorem dX10_partsWithEdges_80 : decode cX10_partsWithEdges 80 = .ok (.iconst 0, 1) := by decide +kernel
theorem dX10_partsWithEdges_81 : decode cX10_partsWithEdges 81 = .ok (.iadd, 1) := by decide +kernel
theorem dX10_partsWithEdges_82 : decode cX10_partsWithEdges 82 = .ok (.istore_n 2, 1) := by decide +kernel
theorem dX10_partsWithEdges_83 : decode cX10_partsWithEdges 83 = .ok (.iinc 3 1, 3) := by decide +kernel
theorem dX10_partsWithEdges_86 : decode cX10_partsWithEdges 86 = .ok (.goto (-77), 3) := by decide +kernel
theorem dX10_partsWithEdges_89 : decode cX10_partsWithEdges 89 = .ok (.iload_n 2, 1) := by decide +kernel
theorem dX10_partsWithEdges_90 : decode cX10_partsWithEdges 90 = .ok (.ireturn, 1) := by decide +kernel
theorem dX10_components_0 : decode cX10_components 0 = .ok (.aload_n 0, 1) := by decide +kernel
theorem dX10_components_1 : decode cX10_components 1 = .ok (.iconst 0, 1) := by decide +kernel
theorem dX10_components_2 : decode cX10_components 2 = .ok (.putfield 54, 3) := by decide +kernel
theorem dX10_components_5 : decode cX10_components 5 = .ok (.aload_n 0, 1) := by decide +kernel
theorem dX10_components_6 : decode cX10_components 6 = .ok (.invokevirtual 235, 3) := by decide +kernel
theorem dX10_components_9 : decode cX10_components 9 = .ok (.ireturn, 1) := by decide +kernel
theorem dX10_component_0 : decode cX10_component 0 = .ok (.aload_n 0, 1) := by decide +kernel
theorem dX10_component_1 : decode cX10_component 1 = .ok (.aload_n 0, 1) := by decide +kernel
theorem dX10_component_2 : decode cX10_component 2 = .ok (.iload_n 1, 1) := by decide +kernel
theorem dX10_component_3 : decode cX10_component 3 = .ok (.invokevirtual 203, 3) := by decide +kernel
theorem dX10_component_6 : decode cX10_component 6 = .ok (.invokevirtual 188, 3) := by decide +kernel
theorem dX10_component_9 : decode cX10_component 9 = .ok (.ifCond .ne 5, 3) := by decide +kernel
theorem dX10_component_12 : decode cX10_component 12 = .ok (.iconst 0, 1) := by decide +kernel
theorem dX10_component_13 : decode cX10_component 13 = .ok (.ireturn, 1) := by decide +kernel
theorem dX10_component_14 : decode cX10_component 14 = .ok (.aload_n 0, 1) := by decide +kernel
theorem dX10_component_15 : decode cX10_component 15 = .ok (.invokevirtual 235, 3) := by decide +kernel
theorem dX10_component_18 : decode cX10_component 18 = .ok (.istore_n 2, 1) := by decide +kernel
theorem dX10_component_19 : decode cX10_component 19 = .ok (.iload_n 2, 1) := by decide +kernel
theorem dX10_component_20 : decode cX10_component 20 = .ok (.aload_n 0, 1) := by decide +kernel
theorem dX10_component_21 : decode cX10_component 21 = .ok (.getfield 29, 3) := by decide +kernel
theorem dX10_component_24 : decode cX10_component 24 = .ok (.iload_n 1, 1) := by decide +kernel
theorem dX10_component_25 : decode cX10_component 25 = .ok (.iaload, 1) := by decide +kernel
theorem dX10_component_26 : decode cX10_component 26 = .ok (.invokestatic 238, 3) := by decide +kernel
theorem dX10_component_29 : decode cX10_component 29 = .ok (.ireturn, 1) := by decide +kernel
theorem dX10_isConnected_0 : decode cX10_isConnected 0 = .ok (.aload_n 0, 1) := by decide +kernel
theorem dX10_isConnected_1 : decode cX10_isConnected 1 = .ok (.iconst 0, 1) := by decide +kernel
theorem dX10_isConnected_2 : decode cX10_isConnected 2 = .ok (.putfield 54, 3) := by decide +kernel
theorem dX10_isConnected_5 : decode cX10_isConnected 5 = .ok (.aload_n 0, 1) := by decide +kernel
theorem dX10_isConnected_6 : decode cX10_isConnected 6 = .ok (.invokevirtual 241, 3) := by decide +kernel
theorem dX10_isConnected_9 : decode cX10_isConnected 9 = .ok (.iconst 1, 1) := by decide +kernel
theorem dX10_isConnected_10 : decode cX10_isConnected 10 = .ok (.if_icmp .gt 7, 3) := by decide +kernel
theorem dX10_isConnected_13 : decode cX10_isConnected 13 = .ok (.iconst 1, 1) := by decide +kernel
theorem dX10_isConnected_14 : decode cX10_isConnected 14 = .ok (.goto 4, 3) := by decide +kernel
theorem dX10_isConnected_17 : decode cX10_isConnected 17 = .ok (.iconst 0, 1) := by decide +kernel
theorem dX10_isConnected_18 : decode cX10_isConnected 18 = .ok (.ireturn, 1) := by decide +kernel
theorem dX10_isBridgeNow_0 : decode cX10_isBridgeNow 0 = .ok (.iload_n 1, 1) := by decide +kernel
theorem dX10_isBridgeNow_1 : decode cX10_isBridgeNow 1 = .ok (.iload_n 2, 1) := by decide +kernel
theorem dX10_isBridgeNow_2 : decode cX10_isBridgeNow 2 = .ok (.if_icmp .eq 14, 3) := by decide +kernel
theorem dX10_isBridgeNow_5 : decode cX10_isBridgeNow 5 = .ok (.aload_n 0, 1) := by decide +kernel
theorem dX10_isBridgeNow_6 : decode cX10_isBridgeNow 6 = .ok (.iconst 2, 1) := by decide +kernel
theorem dX10_isBridgeNow_7 : decode cX10_isBridgeNow 7 = .ok (.iload_n 1, 1) := by decide +kernel
theorem dX10_isBridgeNow_8 : decode cX10_isBridgeNow 8 = .ok (.iload_n 2, 1) := by decide +kernel
theorem dX10_isBridgeNow_9 : decode cX10_isBridgeNow 9 = .ok (.invokevirtual 68, 3) := by decide +kernel
theorem dX10_isBridgeNow_12 : decode cX10_isBridgeNow 12 = .ok (.iconst 1, 1) := by decide +kernel
theorem dX10_isBridgeNow_13 : decode cX10_isBridgeNow 13 = .ok (.if_icmp .eq 5, 3) := by decide +kernel
theorem dX10_isBridgeNow_16 : decode cX10_isBridgeNow 16 = .ok (.iconst 0, 1) := by decide +kernel
theorem dX10_isBridgeNow_17 : decode cX10_isBridgeNow 17 = .ok (.ireturn, 1) := by decide +kernel
theorem dX10_isBridgeNow_18 : decode cX10_isBridgeNow 18 = .ok (.aload_n 0, 1) := by decide +kernel
theorem dX10_isBridgeNow_19 : decode cX10_isBridgeNow 19 = .ok (.iconst 2, 1) := by decide +kernel
theorem dX10_isBridgeNow_20 : decode cX10_isBridgeNow 20 = .ok (.iload_n 1, 1) := by decide +kernel
theorem dX10_isBridgeNow_21 : decode cX10_isBridgeNow 21 = .ok (.iload_n 2, 1) := by decide +kernel
theorem dX10_isBridgeNow_22 : decode cX10_isBridgeNow 22 = .ok (.iconst (-1), 1) := by decide +kernel
theorem dX10_isBridgeNow_23 : decode cX10_isBridgeNow 23 = .ok (.invokevirtual 149, 3) := by decide +kernel
theorem dX10_isBridgeNow_26 : decode cX10_isBridgeNow 26 = .ok (.aload_n 0, 1) := by decide +kernel
theorem dX10_isBridgeNow_27 : decode cX10_isBridgeNow 27 = .ok (.invokevirtual 235, 3) := by decide +kernel
theorem dX10_isBridgeNow_30 : decode cX10_isBridgeNow 30 = .ok (.istore_n 3, 1) := by decide +kernel
theorem dX10_isBridgeNow_31 : decode cX10_isBridgeNow 31 = .ok (.aload_n 0, 1) := by decide +kernel
theorem dX10_isBridgeNow_32 : decode cX10_isBridgeNow 32 = .ok (.iconst 2, 1) := by decide +kernel
theorem dX10_isBridgeNow_33 : decode cX10_isBridgeNow 33 = .ok (.iload_n 1, 1) := by decide +kernel
theorem dX10_isBridgeNow_34 : decode cX10_isBridgeNow 34 = .ok (.iload_n 2, 1) := by decide +kernel
theorem dX10_isBridgeNow_35 : decode cX10_isBridgeNow 35 = .ok (.iconst 1, 1) := by decide +kernel
theorem dX10_isBridgeNow_36 : decode cX10_isBridgeNow 36 = .ok (.invokevirtual 149, 3) := by decide +kernel
theorem dX10_isBridgeNow_39 : decode cX10_isBridgeNow 39 = .ok (.iload_n 3, 1) := by decide +kernel
theorem dX10_isBridgeNow_40 : decode cX10_isBridgeNow 40 = .ok (.iconst 1, 1) := by decide +kernel
theorem dX10_isBridgeNow_41 : decode cX10_isBridgeNow 41 = .ok (.if_icmp .le 22, 3) := by decide +kernel
theorem dX10_isBridgeNow_44 : decode cX10_isBridgeNow 44 = .ok (.aload_n 0, 1) := by decide +kernel
theorem dX10_isBridgeNow_45 : decode cX10_isBridgeNow 45 = .ok (.getfield 29, 3) := by decide +kernel
theorem dX10_isBridgeNow_48 : decode cX10_isBridgeNow 48 = .ok (.iload_n 1, 1) := by decide +kernel
theorem dX10_isBridgeNow_49 : decode cX10_isBridgeNow 49 = .ok (.iaload, 1) := by decide +kernel
theorem dX10_isBridgeNow_50 : decode cX10_isBridgeNow 50 = .ok (.aload_n 0, 1) := by decide +kernel
theorem dX10_isBridgeNow_51 : decode cX10_isBridgeNow 51 = .ok (.getfield 29, 3) := by decide +kernel
theorem dX10_isBridgeNow_54 : decode cX10_isBridgeNow 54 = .ok (.iload_n 2, 1) := by decide +kernel
theorem dX10_isBridgeNow_55 : decode cX10_isBridgeNow 55 = .ok (.iaload, 1) := by decide +kernel
theorem dX10_isBridgeNow_56 : decode cX10_isBridgeNow 56 = .ok (.if_icmp .eq 7, 3) := by decide +kernel
theorem dX10_isBridgeNow_59 : decode cX10_isBridgeNow 59 = .ok (.iconst 1, 1) := by decide +kernel
theorem dX10_isBridgeNow_60 : decode cX10_isBridgeNow 60 = .ok (.goto 4, 3) := by decide +kernel
theorem dX10_isBridgeNow_63 : decode cX10_isBridgeNow 63 = .ok (.iconst 0, 1) := by decide +kernel
theorem dX10_isBridgeNow_64 : decode cX10_isBridgeNow 64 = .ok (.ireturn, 1) := by decide +kernel
theorem dX10_isBridge_0 : decode cX10_isBridge 0 = .ok (.aload_n 0, 1) := by decide +kernel
theorem dX10_isBridge_1 : decode cX10_isBridge 1 = .ok (.iload_n 1, 1) := by decide +kernel
theorem dX10_isBridge_2 : decode cX10_isBridge 2 = .ok (.iload_n 2, 1) := by decide +kernel
theorem dX10_isBridge_3 : decode cX10_isBridge 3 = .ok (.invokevirtual 210, 3) := by decide +kernel
theorem dX10_isBridge_6 : decode cX10_isBridge 6 = .ok (.istore_n 3, 1) := by decide +kernel
theorem dX10_isBridge_7 : decode cX10_isBridge 7 = .ok (.aload_n 0, 1) := by decide +kernel
theorem dX10_isBridge_8 : decode cX10_isBridge 8 = .ok (.iload_n 3, 1) := by decide +kernel
theorem dX10_isBridge_9 : decode cX10_isBridge 9 = .ok (.iload_n 3, 1) := by decide +kernel
theorem dX10_isBridge_10 : decode cX10_isBridge 10 = .ok (.ifCond .eq 17, 3) := by decide +kernel
theorem dX10_isBridge_13 : decode cX10_isBridge 13 = .ok (.aload_n 0, 1) := by decide +kernel
theorem dX10_isBridge_14 : decode cX10_isBridge 14 = .ok (.iconst 2, 1) := by decide +kernel
theorem dX10_isBridge_15 : decode cX10_isBridge 15 = .ok (.iload_n 1, 1) := by decide +kernel
theorem dX10_isBridge_16 : decode cX10_isBridge 16 = .ok (.iload_n 2, 1) := by decide +kernel
theorem dX10_isBridge_17 : decode cX10_isBridge 17 = .ok (.invokevirtual 68, 3) := by decide +kernel
theorem dX10_isBridge_20 : decode cX10_isBridge 20 = .ok (.ifCond .le 7, 3) := by decide +kernel
theorem dX10_isBridge_23 : decode cX10_isBridge 23 = .ok (.iconst 1, 1) := by decide +kernel
theorem dX10_isBridge_24 : decode cX10_isBridge 24 = .ok (.goto 4, 3) := by decide +kernel
theorem dX10_isBridge_27 : decode cX10_isBridge 27 = .ok (.iconst 0, 1) := by decide +kernel
theorem dX10_isBridge_28 : decode cX10_isBridge 28 = .ok (.invokevirtual 244, 3) := by decide +kernel
theorem dX10_isBridge_31 : decode cX10_isBridge 31 = .ok (.ifCond .eq 16, 3) := by decide +kernel
theorem dX10_isBridge_34 : decode cX10_isBridge 34 = .ok (.aload_n 0, 1) := by decide +kernel
theorem dX10_isBridge_35 : decode cX10_isBridge 35 = .ok (.iload_n 1, 1) := by decide +kernel
theorem dX10_isBridge_36 : decode cX10_isBridge 36 = .ok (.iload_n 2, 1) := by decide +kernel
theorem dX10_isBridge_37 : decode cX10_isBridge 37 = .ok (.invokevirtual 247, 3) := by decide +kernel
theorem dX10_isBridge_40 : decode cX10_isBridge 40 = .ok (.ifCond .eq 7, 3) := by decide +kernel
theorem dX10_isBridge_43 : decode cX10_isBridge 43 = .ok (.iconst 1, 1) := by decide +kernel
theorem dX10_isBridge_44 : decode cX10_isBridge 44 = .ok (.goto 4, 3) := by decide +kernel
theorem dX10_isBridge_47 : decode cX10_isBridge 47 = .ok (.iconst 0, 1) := by decide +kernel
theorem dX10_isBridge_48 : decode cX10_isBridge 48 = .ok (.ireturn, 1) := by decide +kernel
theorem dX10_bridges_0 : decode cX10_bridges 0 = .ok (.aload_n 0, 1) := by decide +kernel
theorem dX10_bridges_1 : decode cX10_bridges 1 = .ok (.iconst 0, 1) := by decide +kernel
theorem dX10_bridges_2 : decode cX10_bridges 2 = .ok (.putfield 54, 3) := by decide +kernel
theorem dX10_bridges_5 : decode cX10_bridges 5 = .ok (.iconst 0, 1) := by decide +kernel
theorem dX10_bridges_6 : decode cX10_bridges 6 = .ok (.istore_n 1, 1) := by decide +kernel
theorem dX10_bridges_7 : decode cX10_bridges 7 = .ok (.iconst 0, 1) := by decide +kernel
theorem dX10_bridges_8 : decode cX10_bridges 8 = .ok (.istore_n 2, 1) := by decide +kernel
theorem dX10_bridges_9 : decode cX10_bridges 9 = .ok (.iload_n 2, 1) := by decide +kernel
theorem dX10_bridges_10 : decode cX10_bridges 10 = .ok (.aload_n 0, 1) := by decide +kernel
theorem dX10_bridges_11 : decode cX10_bridges 11 = .ok (.getfield 7, 3) := by decide +kernel
theorem dX10_bridges_14 : decode cX10_bridges 14 = .ok (.iconst 0, 1) := by decide +kernel
theorem dX10_bridges_15 : decode cX10_bridges 15 = .ok (.iaload, 1) := by decide +kernel
theorem dX10_bridges_16 : decode cX10_bridges 16 = .ok (.if_icmp .ge 41, 3) := by decide +kernel
theorem dX10_bridges_19 : decode cX10_bridges 19 = .ok (.iload_n 2, 1) := by decide +kernel
theorem dX10_bridges_20 : decode cX10_bridges 20 = .ok (.iconst 1, 1) := by decide +kernel
theorem dX10_bridges_21 : decode cX10_bridges 21 = .ok (.iadd, 1) := by decide +kernel
theorem dX10_bridges_22 : decode cX10_bridges 22 = .ok (.istore_n 3, 1) := by decide +kernel
theorem dX10_bridges_23 : decode cX10_bridges 23 = .ok (.iload_n 3, 1) := by decide +kernel
theorem dX10_bridges_24 : decode cX10_bridges 24 = .ok (.aload_n 0, 1) := by decide +kernel
theorem dX10_bridges_25 : decode cX10_bridges 25 = .ok (.getfield 7, 3) := by decide +kernel
theorem dX10_bridges_28 : decode cX10_bridges 28 = .ok (.iconst 0, 1) := by decide +kernel
theorem dX10_bridges_29 : decode cX10_bridges 29 = .ok (.iaload, 1) := by decide +kernel
theorem dX10_bridges_30 : decode cX10_bridges 30 = .ok (.if_icmp .ge 21, 3) := by decide +kernel
theorem dX10_bridges_33 : decode cX10_bridges 33 = .ok (.aload_n 0, 1) := by decide +kernel
theorem dX10_bridges_34 : decode cX10_bridges 34 = .ok (.iload_n 2, 1) := by decide +kernel
theorem dX10_bridges_35 : decode cX10_bridges 35 = .ok (.iload_n 3, 1) := by decide +kernel
theorem dX10_bridges_36 : decode cX10_bridges 36 = .ok (.invokevirtual 247, 3) := by decide +kernel
theorem dX10_bridges_39 : decode cX10_bridges 39 = .ok (.ifCond .eq 6, 3) := by decide +kernel
theorem dX10_bridges_42 : decode cX10_bridges 42 = .ok (.iinc 1 1, 3) := by decide +kernel
theorem dX10_bridges_45 : decode cX10_bridges 45 = .ok (.iinc 3 1, 3) := by decide +kernel
theorem dX10_bridges_48 : decode cX10_bridges 48 = .ok (.goto (-25), 3) := by decide +kernel
theorem dX10_bridges_51 : decode cX10_bridges 51 = .ok (.iinc 2 1, 3) := by decide +kernel
theorem dX10_bridges_54 : decode cX10_bridges 54 = .ok (.goto (-45), 3) := by decide +kernel
theorem dX10_bridges_57 : decode cX10_bridges 57 = .ok (.iload_n 1, 1) := by decide +kernel
theorem dX10_bridges_58 : decode cX10_bridges 58 = .ok (.ireturn, 1) := by decide +kernel
theorem dX10_way_0 : decode cX10_way 0 = .ok (.aload_n 0, 1) := by decide +kernel
theorem dX10_way_1 : decode cX10_way 1 = .ok (.aload_n 0, 1) := by decide +kernel
theorem dX10_way_2 : decode cX10_way 2 = .ok (.iload_n 1, 1) := by decide +kernel
theorem dX10_way_3 : decode cX10_way 3 = .ok (.iload_n 2, 1) := by decide +kernel
theorem dX10_way_4 : decode cX10_way 4 = .ok (.invokevirtual 210, 3) := by decide +kernel
theorem dX10_way_7 : decode cX10_way 7 = .ok (.invokevirtual 188, 3) := by decide +kernel
theorem dX10_way_10 : decode cX10_way 10 = .ok (.ifCond .ne 5, 3) := by decide +kernel
theorem dX10_way_13 : decode cX10_way 13 = .ok (.iconst 0, 1) := by decide +kernel
theorem dX10_way_14 : decode cX10_way 14 = .ok (.ireturn, 1) := by decide +kernel
theorem dX10_way_15 : decode cX10_way 15 = .ok (.iconst 0, 1) := by decide +kernel
theorem dX10_way_16 : decode cX10_way 16 = .ok (.istore_n 3, 1) := by decide +kernel
theorem dX10_way_17 : decode cX10_way 17 = .ok (.iload_n 3, 1) := by decide +kernel
theorem dX10_way_18 : decode cX10_way 18 = .ok (.bipush 8, 2) := by decide +kernel
theorem dX10_way_20 : decode cX10_way 20 = .ok (.if_icmp .ge 26, 3) := by decide +kernel
theorem dX10_way_23 : decode cX10_way 23 = .ok (.aload_n 0, 1) := by decide +kernel
theorem dX10_way_24 : decode cX10_way 24 = .ok (.getfield 32, 3) := by decide +kernel
theorem dX10_way_27 : decode cX10_way 27 = .ok (.iload_n 3, 1) := by decide +kernel
theorem dX10_way_28 : decode cX10_way 28 = .ok (.iload_n 3, 1) := by decide +kernel
theorem dX10_way_29 : decode cX10_way 29 = .ok (.iload_n 1, 1) := by decide +kernel
theorem dX10_way_30 : decode cX10_way 30 = .ok (.if_icmp .ne 7, 3) := by decide +kernel
theorem dX10_way_33 : decode cX10_way 33 = .ok (.iconst 0, 1) := by decide +kernel
theorem dX10_way_34 : decode cX10_way 34 = .ok (.goto 5, 3) := by decide +kernel
theorem dX10_way_37 : decode cX10_way 37 = .ok (.bipush 8, 2) := by decide +kernel
theorem dX10_way_39 : decode cX10_way 39 = .ok (.iastore, 1) := by decide +kernel
theorem dX10_way_40 : decode cX10_way 40 = .ok (.iinc 3 1, 3) := by decide +kernel
theorem dX10_way_43 : decode cX10_way 43 = .ok (.goto (-26), 3) := by decide +kernel
theorem dX10_way_46 : decode cX10_way 46 = .ok (.iconst 0, 1) := by decide +kernel
theorem dX10_way_47 : decode cX10_way 47 = .ok (.istore_n 3, 1) := by decide +kernel
theorem dX10_way_48 : decode cX10_way 48 = .ok (.iload_n 3, 1) := by decide +kernel
theorem dX10_way_49 : decode cX10_way 49 = .ok (.bipush 8, 2) := by decide +kernel
theorem dX10_way_51 : decode cX10_way 51 = .ok (.if_icmp .ge 88, 3) := by decide +kernel
theorem dX10_way_54 : decode cX10_way 54 = .ok (.iconst 0, 1) := by decide +kernel
theorem dX10_way_55 : decode cX10_way 55 = .ok (.istore 4, 2) := by decide +kernel
theorem dX10_way_57 : decode cX10_way 57 = .ok (.iload 4, 2) := by decide +kernel
theorem dX10_way_59 : decode cX10_way 59 = .ok (.bipush 8, 2) := by decide +kernel
theorem dX10_way_61 : decode cX10_way 61 = .ok (.if_icmp .ge 72, 3) := by decide +kernel
theorem dX10_way_64 : decode cX10_way 64 = .ok (.iconst 0, 1) := by decide +kernel
theorem dX10_way_65 : decode cX10_way 65 = .ok (.istore 5, 2) := by decide +kernel
theorem dX10_way_67 : decode cX10_way 67 = .ok (.iload 5, 2) := by decide +kernel
theorem dX10_way_69 : decode cX10_way 69 = .ok (.bipush 8, 2) := by decide +kernel
theorem dX10_way_71 : decode cX10_way 71 = .ok (.if_icmp .ge 56, 3) := by decide +kernel
theorem dX10_way_74 : decode cX10_way 74 = .ok (.aload_n 0, 1) := by decide +kernel
theorem dX10_way_75 : decode cX10_way 75 = .ok (.getfield 32, 3) := by decide +kernel
theorem dX10_way_78 : decode cX10_way 78 = .ok (.iload 5, 2) := by decide +kernel
theorem dX10_way_80 : decode cX10_way 80 = .ok (.aload_n 0, 1) := by decide +kernel
theorem dX10_way_81 : decode cX10_way 81 = .ok (.iload 4, 2) := by decide +kernel
theorem dX10_way_83 : decode cX10_way 83 = .ok (.iload 5, 2) := by decide +kernel
theorem dX10_way_85 : decode cX10_way 85 = .ok (.invokevirtual 228, 3) := by decide +kernel
theorem dX10_way_88 : decode cX10_way 88 = .ok (.ifCond .eq 25, 3) := by decide +kernel
theorem dX10_way_91 : decode cX10_way 91 = .ok (.aload_n 0, 1) := by decide +kernel
theorem dX10_way_92 : decode cX10_way 92 = .ok (.getfield 32, 3) := by decide +kernel
theorem dX10_way_95 : decode cX10_way 95 = .ok (.iload 5, 2) := by decide +kernel
theorem dX10_way_97 : decode cX10_way 97 = .ok (.iaload, 1) := by decide +kernel
theorem dX10_way_98 : decode cX10_way 98 = .ok (.aload_n 0, 1) := by decide +kernel
theorem dX10_way_99 : decode cX10_way 99 = .ok (.getfield 32, 3) := by decide +kernel
theorem dX10_way_102 : decode cX10_way 102 = .ok (.iload 4, 2) := by decide +kernel
theorem dX10_way_104 : decode cX10_way 104 = .ok (.iaload, 1) := by decide +kernel
theorem dX10_way_105 : decode cX10_way 105 = .ok (.iconst 1, 1) := by decide +kernel
theorem dX10_way_106 : decode cX10_way 106 = .ok (.iadd, 1) := by decide +kernel
theorem dX10_way_107 : decode cX10_way 107 = .ok (.invokestatic 238, 3) := by decide +kernel
theorem dX10_way_110 : decode cX10_way 110 = .ok (.goto 10, 3) := by decide +kernel
theorem dX10_way_113 : decode cX10_way 113 = .ok (.aload_n 0, 1) := by decide +kernel
theorem dX10_way_114 : decode cX10_way 114 = .ok (.getfield 32, 3) := by decide +kernel
theorem dX10_way_117 : decode cX10_way 117 = .ok (.iload 5, 2) := by decide +kernel
theorem dX10_way_119 : decode cX10_way 119 = .ok (.iaload, 1) := by decide +kernel
theorem dX10_way_120 : decode cX10_way 120 = .ok (.iastore, 1) := by decide +kernel
theorem dX10_way_121 : decode cX10_way 121 = .ok (.iinc 5 1, 3) := by decide +kernel
theorem dX10_way_124 : decode cX10_way 124 = .ok (.goto (-57), 3) := by decide +kernel
theorem dX10_way_127 : decode cX10_way 127 = .ok (.iinc 4 1, 3) := by decide +kernel
theorem dX10_way_130 : decode cX10_way 130 = .ok (.goto (-73), 3) := by decide +kernel
theorem dX10_way_133 : decode cX10_way 133 = .ok (.iinc 3 1, 3) := by decide +kernel
theorem dX10_way_136 : decode cX10_way 136 = .ok (.goto (-88), 3) := by decide +kernel
theorem dX10_way_139 : decode cX10_way 139 = .ok (.aload_n 0, 1) := by decide +kernel
theorem dX10_way_140 : decode cX10_way 140 = .ok (.getfield 32, 3) := by decide +kernel
theorem dX10_way_143 : decode cX10_way 143 = .ok (.iload_n 2, 1) := by decide +kernel
theorem dX10_way_144 : decode cX10_way 144 = .ok (.iaload, 1) := by decide +kernel
theorem dX10_way_145 : decode cX10_way 145 = .ok (.bipush 8, 2) := by decide +kernel
theorem dX10_way_147 : decode cX10_way 147 = .ok (.if_icmp .ne 7, 3) := by decide +kernel
theorem dX10_way_150 : decode cX10_way 150 = .ok (.iconst (-1), 1) := by decide +kernel
theorem dX10_way_151 : decode cX10_way 151 = .ok (.goto 9, 3) := by decide +kernel
theorem dX10_way_154 : decode cX10_way 154 = .ok (.aload_n 0, 1) := by decide +kernel
theorem dX10_way_155 : decode cX10_way 155 = .ok (.getfield 32, 3) := by decide +kernel
theorem dX10_way_158 : decode cX10_way 158 = .ok (.iload_n 2, 1) := by decide +kernel
theorem dX10_way_159 : decode cX10_way 159 = .ok (.iaload, 1) := by decide +kernel
theorem dX10_way_160 : decode cX10_way 160 = .ok (.ireturn, 1) := by decide +kernel
theorem dX10_ordersDegrees_0 : decode cX10_ordersDegrees 0 = .ok (.iconst 0, 1) := by decide +kernel
theorem dX10_ordersDegrees_1 : decode cX10_ordersDegrees 1 = .ok (.istore_n 1, 1) := by decide +kernel
theorem dX10_ordersDegrees_2 : decode cX10_ordersDegrees 2 = .ok (.iload_n 1, 1) := by decide +kernel
theorem dX10_ordersDegrees_3 : decode cX10_ordersDegrees 3 = .ok (.aload_n 0, 1) := by decide +kernel
theorem dX10_ordersDegrees_4 : decode cX10_ordersDegrees 4 = .ok (.getfield 7, 3) := by decide +kernel
theorem dX10_ordersDegrees_7 : decode cX10_ordersDegrees 7 = .ok (.iconst 0, 1) := by decide +kernel
theorem dX10_ordersDegrees_8 : decode cX10_ordersDegrees 8 = .ok (.iaload, 1) := by decide +kernel
theorem dX10_ordersDegrees_9 : decode cX10_ordersDegrees 9 = .ok (.if_icmp .ge 61, 3) := by decide +kernel
theorem dX10_ordersDegrees_12 : decode cX10_ordersDegrees 12 = .ok (.aload_n 0, 1) := by decide +kernel
theorem dX10_ordersDegrees_13 : decode cX10_ordersDegrees 13 = .ok (.iconst 2, 1) := by decide +kernel
theorem dX10_ordersDegrees_14 : decode cX10_ordersDegrees 14 = .ok (.iload_n 1, 1) := by decide +kernel
theorem dX10_ordersDegrees_15 : decode cX10_ordersDegrees 15 = .ok (.invokevirtual 213, 3) := by decide +kernel
theorem dX10_ordersDegrees_18 : decode cX10_ordersDegrees 18 = .ok (.istore_n 2, 1) := by decide +kernel
theorem dX10_ordersDegrees_19 : decode cX10_ordersDegrees 19 = .ok (.iload_n 1, 1) := by decide +kernel
theorem dX10_ordersDegrees_20 : decode cX10_ordersDegrees 20 = .ok (.istore_n 3, 1) := by decide +kernel
theorem dX10_ordersDegrees_21 : decode cX10_ordersDegrees 21 = .ok (.iload_n 3, 1) := by decide +kernel
theorem dX10_ordersDegrees_22 : decode cX10_ordersDegrees 22 = .ok (.ifCond .le 35, 3) := by decide +kernel
theorem dX10_ordersDegrees_25 : decode cX10_ordersDegrees 25 = .ok (.aload_n 0, 1) := by decide +kernel
theorem dX10_ordersDegrees_26 : decode cX10_ordersDegrees 26 = .ok (.getfield 35, 3) := by decide +kernel
theorem dX10_ordersDegrees_29 : decode cX10_ordersDegrees 29 = .ok (.iload_n 3, 1) := by decide +kernel
theorem dX10_ordersDegrees_30 : decode cX10_ordersDegrees 30 = .ok (.iconst 1, 1) := by decide +kernel
theorem dX10_ordersDegrees_31 : decode cX10_ordersDegrees 31 = .ok (.isub, 1) := by decide +kernel
theorem dX10_ordersDegrees_32 : decode cX10_ordersDegrees 32 = .ok (.iaload, 1) := by decide +kernel
theorem dX10_ordersDegrees_33 : decode cX10_ordersDegrees 33 = .ok (.iload_n 2, 1) := by decide +kernel
theorem dX10_ordersDegrees_34 : decode cX10_ordersDegrees 34 = .ok (.if_icmp .ge 23, 3) := by decide +kernel
theorem dX10_ordersDegrees_37 : decode cX10_ordersDegrees 37 = .ok (.aload_n 0, 1) := by decide +kernel
theorem dX10_ordersDegrees_38 : decode cX10_ordersDegrees 38 = .ok (.getfield 35, 3) := by decide +kernel
theorem dX10_ordersDegrees_41 : decode cX10_ordersDegrees 41 = .ok (.iload_n 3, 1) := by decide +kernel
theorem dX10_ordersDegrees_42 : decode cX10_ordersDegrees 42 = .ok (.aload_n 0, 1) := by decide +kernel
theorem dX10_ordersDegrees_43 : decode cX10_ordersDegrees 43 = .ok (.getfield 35, 3) := by decide +kernel
theorem dX10_ordersDegrees_46 : decode cX10_ordersDegrees 46 = .ok (.iload_n 3, 1) := by decide +kernel
theorem dX10_ordersDegrees_47 : decode cX10_ordersDegrees 47 = .ok (.iconst 1, 1) := by decide +kernel
theorem dX10_ordersDegrees_48 : decode cX10_ordersDegrees 48 = .ok (.isub, 1) := by decide +kernel
theorem dX10_ordersDegrees_49 : decode cX10_ordersDegrees 49 = .ok (.iaload, 1) := by decide +kernel
theorem dX10_ordersDegrees_50 : decode cX10_ordersDegrees 50 = .ok (.iastore, 1) := by decide +kernel
theorem dX10_ordersDegrees_51 : decode cX10_ordersDegrees 51 = .ok (.iinc 3 (-1), 3) := by decide +kernel
theorem dX10_ordersDegrees_54 : decode cX10_ordersDegrees 54 = .ok (.goto (-33), 3) := by decide +kernel
theorem dX10_ordersDegrees_57 : decode cX10_ordersDegrees 57 = .ok (.aload_n 0, 1) := by decide +kernel
theorem dX10_ordersDegrees_58 : decode cX10_ordersDegrees 58 = .ok (.getfield 35, 3) := by decide +kernel
theorem dX10_ordersDegrees_61 : decode cX10_ordersDegrees 61 = .ok (.iload_n 3, 1) := by decide +kernel
theorem dX10_ordersDegrees_62 : decode cX10_ordersDegrees 62 = .ok (.iload_n 2, 1) := by decide +kernel
theorem dX10_ordersDegrees_63 : decode cX10_ordersDegrees 63 = .ok (.iastore, 1) := by decide +kernel
theorem dX10_ordersDegrees_64 : decode cX10_ordersDegrees 64 = .ok (.iinc 1 1, 3) := by decide +kernel
theorem dX10_ordersDegrees_67 : decode cX10_ordersDegrees 67 = .ok (.goto (-65), 3) := by decide +kernel
theorem dX10_ordersDegrees_70 : decode cX10_ordersDegrees 70 = .ok (.return_, 1) := by decide +kernel
theorem dX10_sorted_0 : decode cX10_sorted 0 = .ok (.aload_n 0, 1) := by decide +kernel
theorem dX10_sorted_1 : decode cX10_sorted 1 = .ok (.aload_n 0, 1) := by decide +kernel
theorem dX10_sorted_2 : decode cX10_sorted 2 = .ok (.iload_n 1, 1) := by decide +kernel
theorem dX10_sorted_3 : decode cX10_sorted 3 = .ok (.invokevirtual 203, 3) := by decide +kernel
theorem dX10_sorted_6 : decode cX10_sorted 6 = .ok (.invokevirtual 188, 3) := by decide +kernel
theorem dX10_sorted_9 : decode cX10_sorted 9 = .ok (.ifCond .ne 5, 3) := by decide +kernel
theorem dX10_sorted_12 : decode cX10_sorted 12 = .ok (.iconst 0, 1) := by decide +kernel
theorem dX10_sorted_13 : decode cX10_sorted 13 = .ok (.ireturn, 1) := by decide +kernel
theorem dX10_sorted_14 : decode cX10_sorted 14 = .ok (.aload_n 0, 1) := by decide +kernel
theorem dX10_sorted_15 : decode cX10_sorted 15 = .ok (.invokevirtual 250, 3) := by decide +kernel
theorem dX10_sorted_18 : decode cX10_sorted 18 = .ok (.aload_n 0, 1) := by decide +kernel
theorem dX10_sorted_19 : decode cX10_sorted 19 = .ok (.getfield 35, 3) := by decide +kernel
theorem dX10_sorted_22 : decode cX10_sorted 22 = .ok (.iload_n 1, 1) := by decide +kernel
theorem dX10_sorted_23 : decode cX10_sorted 23 = .ok (.iaload, 1) := by decide +kernel
theorem dX10_sorted_24 : decode cX10_sorted 24 = .ok (.ireturn, 1) := by decide +kernel
theorem dX10_slackOf_0 : decode cX10_slackOf 0 = .ok (.iload_n 1, 1) := by decide +kernel
theorem dX10_slackOf_1 : decode cX10_slackOf 1 = .ok (.iload_n 1, 1) := by decide +kernel
theorem dX10_slackOf_2 : decode cX10_slackOf 2 = .ok (.iconst 1, 1) := by decide +kernel
theorem dX10_slackOf_3 : decode cX10_slackOf 3 = .ok (.isub, 1) := by decide +kernel
theorem dX10_slackOf_4 : decode cX10_slackOf 4 = .ok (.imul, 1) := by decide +kernel
theorem dX10_slackOf_5 : decode cX10_slackOf 5 = .ok (.istore_n 2, 1) := by decide +kernel
theorem dX10_slackOf_6 : decode cX10_slackOf 6 = .ok (.iconst 0, 1) := by decide +kernel
theorem dX10_slackOf_7 : decode cX10_slackOf 7 = .ok (.istore_n 3, 1) := by decide +kernel
theorem dX10_slackOf_8 : decode cX10_slackOf 8 = .ok (.iload_n 3, 1) := by decide +kernel
theorem dX10_slackOf_9 : decode cX10_slackOf 9 = .ok (.aload_n 0, 1) := by decide +kernel
theorem dX10_slackOf_10 : decode cX10_slackOf 10 = .ok (.getfield 7, 3) := by decide +kernel
theorem dX10_slackOf_13 : decode cX10_slackOf 13 = .ok (.iconst 0, 1) := by decide +kernel
theorem dX10_slackOf_14 : decode cX10_slackOf 14 = .ok (.iaload, 1) := by decide +kernel
theorem dX10_slackOf_15 : decode cX10_slackOf 15 = .ok (.if_icmp .ge 37, 3) := by decide +kernel
theorem dX10_slackOf_18 : decode cX10_slackOf 18 = .ok (.iload_n 2, 1) := by decide +kernel
theorem dX10_slackOf_19 : decode cX10_slackOf 19 = .ok (.iload_n 3, 1) := by decide +kernel
theorem dX10_slackOf_20 : decode cX10_slackOf 20 = .ok (.iload_n 1, 1) := by decide +kernel
theorem dX10_slackOf_21 : decode cX10_slackOf 21 = .ok (.if_icmp .ge 13, 3) := by decide +kernel
theorem dX10_slackOf_24 : decode cX10_slackOf 24 = .ok (.aload_n 0, 1) := by decide +kernel
theorem dX10_slackOf_25 : decode cX10_slackOf 25 = .ok (.getfield 35, 3) := by decide +kernel
theorem dX10_slackOf_28 : decode cX10_slackOf 28 = .ok (.iload_n 3, 1) := by decide +kernel
theorem dX10_slackOf_29 : decode cX10_slackOf 29 = .ok (.iaload, 1) := by decide +kernel
theorem dX10_slackOf_30 : decode cX10_slackOf 30 = .ok (.ineg, 1) := by decide +kernel
theorem dX10_slackOf_31 : decode cX10_slackOf 31 = .ok (.goto 13, 3) := by decide +kernel
theorem dX10_slackOf_34 : decode cX10_slackOf 34 = .ok (.iload_n 1, 1) := by decide +kernel
theorem dX10_slackOf_35 : decode cX10_slackOf 35 = .ok (.aload_n 0, 1) := by decide +kernel
theorem dX10_slackOf_36 : decode cX10_slackOf 36 = .ok (.getfield 35, 3) := by decide +kernel
theorem dX10_slackOf_39 : decode cX10_slackOf 39 = .ok (.iload_n 3, 1) := by decide +kernel
theorem dX10_slackOf_40 : decode cX10_slackOf 40 = .ok (.iaload, 1) := by decide +kernel
theorem dX10_slackOf_41 : decode cX10_slackOf 41 = .ok (.invokestatic 238, 3) := by decide +kernel
theorem dX10_slackOf_44 : decode cX10_slackOf 44 = .ok (.iadd, 1) := by decide +kernel
theorem dX10_slackOf_45 : decode cX10_slackOf 45 = .ok (.istore_n 2, 1) := by decide +kernel
theorem dX10_slackOf_46 : decode cX10_slackOf 46 = .ok (.iinc 3 1, 3) := by decide +kernel
theorem dX10_slackOf_49 : decode cX10_slackOf 49 = .ok (.goto (-41), 3) := by decide +kernel
theorem dX10_slackOf_52 : decode cX10_slackOf 52 = .ok (.iload_n 2, 1) := by decide +kernel
theorem dX10_slackOf_53 : decode cX10_slackOf 53 = .ok (.ireturn, 1) := by decide +kernel
theorem dX10_slack_0 : decode cX10_slack 0 = .ok (.aload_n 0, 1) := by decide +kernel
theorem dX10_slack_1 : decode cX10_slack 1 = .ok (.iload_n 1, 1) := by decide +kernel
theorem dX10_slack_2 : decode cX10_slack 2 = .ok (.iconst 1, 1) := by decide +kernel
theorem dX10_slack_3 : decode cX10_slack 3 = .ok (.aload_n 0, 1) := by decide +kernel
theorem dX10_slack_4 : decode cX10_slack 4 = .ok (.getfield 7, 3) := by decide +kernel
theorem dX10_slack_7 : decode cX10_slack 7 = .ok (.iconst 0, 1) := by decide +kernel
theorem dX10_slack_8 : decode cX10_slack 8 = .ok (.iaload, 1) := by decide +kernel
theorem dX10_slack_9 : decode cX10_slack 9 = .ok (.invokestatic 128, 3) := by decide +kernel
theorem dX10_slack_12 : decode cX10_slack 12 = .ok (.invokevirtual 188, 3) := by decide +kernel
theorem dX10_slack_15 : decode cX10_slack 15 = .ok (.ifCond .ne 5, 3) := by decide +kernel
theorem dX10_slack_18 : decode cX10_slack 18 = .ok (.iconst 0, 1) := by decide +kernel
theorem dX10_slack_19 : decode cX10_slack 19 = .ok (.ireturn, 1) := by decide +kernel
theorem dX10_slack_20 : decode cX10_slack 20 = .ok (.aload_n 0, 1) := by decide +kernel
theorem dX10_slack_21 : decode cX10_slack 21 = .ok (.invokevirtual 250, 3) := by decide +kernel
theorem dX10_slack_24 : decode cX10_slack 24 = .ok (.aload_n 0, 1) := by decide +kernel
theorem dX10_slack_25 : decode cX10_slack 25 = .ok (.iload_n 1, 1) := by decide +kernel
theorem dX10_slack_26 : decode cX10_slack 26 = .ok (.invokevirtual 253, 3) := by decide +kernel
theorem dX10_slack_29 : decode cX10_slack 29 = .ok (.ireturn, 1) := by decide +kernel
theorem dX10_isPossibleIn_0 : decode cX10_isPossibleIn 0 = .ok (.aload_n 0, 1) := by decide +kernel
theorem dX10_isPossibleIn_1 : decode cX10_isPossibleIn 1 = .ok (.invokevirtual 250, 3) := by decide +kernel
theorem dX10_isPossibleIn_4 : decode cX10_isPossibleIn 4 = .ok (.iload_n 1, 1) := by decide +kernel
theorem dX10_isPossibleIn_5 : decode cX10_isPossibleIn 5 = .ok (.ifCond .ne 5, 3) := by decide +kernel
theorem dX10_isPossibleIn_8 : decode cX10_isPossibleIn 8 = .ok (.iconst 1, 1) := by decide +kernel
theorem dX10_isPossibleIn_9 : decode cX10_isPossibleIn 9 = .ok (.ireturn, 1) := by decide +kernel
theorem dX10_isPossibleIn_10 : decode cX10_isPossibleIn 10 = .ok (.iload_n 1, 1) := by decide +kernel
theorem dX10_isPossibleIn_11 : decode cX10_isPossibleIn 11 = .ok (.iconst 1, 1) := by decide +kernel
theorem dX10_isPossibleIn_12 : decode cX10_isPossibleIn 12 = .ok (.if_icmp .ne 27, 3) := by decide +kernel
theorem dX10_isPossibleIn_15 : decode cX10_isPossibleIn 15 = .ok (.iconst 2, 1) := by decide +kernel
theorem dX10_isPossibleIn_16 : decode cX10_isPossibleIn 16 = .ok (.aload_n 0, 1) := by decide +kernel
theorem dX10_isPossibleIn_17 : decode cX10_isPossibleIn 17 = .ok (.getfield 35, 3) := by decide +kernel
theorem dX10_isPossibleIn_20 : decode cX10_isPossibleIn 20 = .ok (.iconst 0, 1) := by decide +kernel
theorem dX10_isPossibleIn_21 : decode cX10_isPossibleIn 21 = .ok (.iaload, 1) := by decide +kernel
theorem dX10_isPossibleIn_22 : decode cX10_isPossibleIn 22 = .ok (.imul, 1) := by decide +kernel
theorem dX10_isPossibleIn_23 : decode cX10_isPossibleIn 23 = .ok (.iconst 2, 1) := by decide +kernel
theorem dX10_isPossibleIn_24 : decode cX10_isPossibleIn 24 = .ok (.aload_n 0, 1) := by decide +kernel
theorem dX10_isPossibleIn_25 : decode cX10_isPossibleIn 25 = .ok (.iconst 2, 1) := by decide +kernel
theorem dX10_isPossibleIn_26 : decode cX10_isPossibleIn 26 = .ok (.invokevirtual 146, 3) := by decide +kernel
theorem dX10_isPossibleIn_29 : decode cX10_isPossibleIn 29 = .ok (.imul, 1) := by decide +kernel
theorem dX10_isPossibleIn_30 : decode cX10_isPossibleIn 30 = .ok (.if_icmp .gt 7, 3) := by decide +kernel
theorem dX10_isPossibleIn_33 : decode cX10_isPossibleIn 33 = .ok (.iconst 1, 1) := by decide +kernel
theorem dX10_isPossibleIn_34 : decode cX10_isPossibleIn 34 = .ok (.goto 4, 3) := by decide +kernel
theorem dX10_isPossibleIn_37 : decode cX10_isPossibleIn 37 = .ok (.iconst 0, 1) := by decide +kernel
theorem dX10_isPossibleIn_38 : decode cX10_isPossibleIn 38 = .ok (.ireturn, 1) := by decide +kernel
theorem dX10_isPossibleIn_39 : decode cX10_isPossibleIn 39 = .ok (.iconst 1, 1) := by decide +kernel
theorem dX10_isPossibleIn_40 : decode cX10_isPossibleIn 40 = .ok (.istore_n 2, 1) := by decide +kernel
theorem dX10_isPossibleIn_41 : decode cX10_isPossibleIn 41 = .ok (.iconst 1, 1) := by decide +kernel
theorem dX10_isPossibleIn_42 : decode cX10_isPossibleIn 42 = .ok (.istore_n 3, 1) := by decide +kernel
theorem dX10_isPossibleIn_43 : decode cX10_isPossibleIn 43 = .ok (.iload_n 3, 1) := by decide +kernel
theorem dX10_isPossibleIn_44 : decode cX10_isPossibleIn 44 = .ok (.aload_n 0, 1) := by decide +kernel
theorem dX10_isPossibleIn_45 : decode cX10_isPossibleIn 45 = .ok (.getfield 7, 3) := by decide +kernel
theorem dX10_isPossibleIn_48 : decode cX10_isPossibleIn 48 = .ok (.iconst 0, 1) := by decide +kernel
theorem dX10_isPossibleIn_49 : decode cX10_isPossibleIn 49 = .ok (.iaload, 1) := by decide +kernel
theorem dX10_isPossibleIn_50 : decode cX10_isPossibleIn 50 = .ok (.if_icmp .gt 27, 3) := by decide +kernel
theorem dX10_isPossibleIn_53 : decode cX10_isPossibleIn 53 = .ok (.iload_n 2, 1) := by decide +kernel
theorem dX10_isPossibleIn_54 : decode cX10_isPossibleIn 54 = .ok (.ifCond .eq 15, 3) := by decide +kernel
theorem dX10_isPossibleIn_57 : decode cX10_isPossibleIn 57 = .ok (.aload_n 0, 1) := by decide +kernel
theorem dX10_isPossibleIn_58 : decode cX10_isPossibleIn 58 = .ok (.iload_n 3, 1) := by decide +kernel
theorem dX10_isPossibleIn_59 : decode cX10_isPossibleIn 59 = .ok (.invokevirtual 253, 3) := by decide +kernel
theorem dX10_isPossibleIn_62 : decode cX10_isPossibleIn 62 = .ok (.ifCond .lt 7, 3) := by decide +kernel
theorem dX10_isPossibleIn_65 : decode cX10_isPossibleIn 65 = .ok (.iconst 1, 1) := by decide +kernel
theorem dX10_isPossibleIn_66 : decode cX10_isPossibleIn 66 = .ok (.goto 4, 3) := by decide +kernel
theorem dX10_isPossibleIn_69 : decode cX10_isPossibleIn 69 = .ok (.iconst 0, 1) := by decide +kernel
theorem dX10_isPossibleIn_70 : decode cX10_isPossibleIn 70 = .ok (.istore_n 2, 1) := by decide +kernel
theorem dX10_isPossibleIn_71 : decode cX10_isPossibleIn 71 = .ok (.iinc 3 1, 3) := by decide +kernel
theorem dX10_isPossibleIn_74 : decode cX10_isPossibleIn 74 = .ok (.goto (-31), 3) := by decide +kernel
theorem dX10_isPossibleIn_77 : decode cX10_isPossibleIn 77 = .ok (.iload_n 2, 1) := by decide +kernel
theorem dX10_isPossibleIn_78 : decode cX10_isPossibleIn 78 = .ok (.ireturn, 1) := by decide +kernel
theorem dX10_isPossible_0 : decode cX10_isPossible 0 = .ok (.aload_n 0, 1) := by decide +kernel
theorem dX10_isPossible_1 : decode cX10_isPossible 1 = .ok (.iload_n 1, 1) := by decide +kernel
theorem dX10_isPossible_2 : decode cX10_isPossible 2 = .ok (.iconst 0, 1) := by decide +kernel
theorem dX10_isPossible_3 : decode cX10_isPossible 3 = .ok (.iconst 2, 1) := by decide +kernel
theorem dX10_isPossible_4 : decode cX10_isPossible 4 = .ok (.invokestatic 128, 3) := by decide +kernel
theorem dX10_isPossible_7 : decode cX10_isPossible 7 = .ok (.invokevirtual 188, 3) := by decide +kernel
theorem dX10_isPossible_10 : decode cX10_isPossible 10 = .ok (.ifCond .eq 15, 3) := by decide +kernel
theorem dX10_isPossible_13 : decode cX10_isPossible 13 = .ok (.aload_n 0, 1) := by decide +kernel
theorem dX10_isPossible_14 : decode cX10_isPossible 14 = .ok (.iload_n 1, 1) := by decide +kernel
theorem dX10_isPossible_15 : decode cX10_isPossible 15 = .ok (.invokevirtual 256, 3) := by decide +kernel
theorem dX10_isPossible_18 : decode cX10_isPossible 18 = .ok (.ifCond .eq 7, 3) := by decide +kernel
theorem dX10_isPossible_21 : decode cX10_isPossible 21 = .ok (.iconst 1, 1) := by decide +kernel
theorem dX10_isPossible_22 : decode cX10_isPossible 22 = .ok (.goto 4, 3) := by decide +kernel
theorem dX10_isPossible_25 : decode cX10_isPossible 25 = .ok (.iconst 0, 1) := by decide +kernel
theorem dX10_isPossible_26 : decode cX10_isPossible 26 = .ok (.ireturn, 1) := by decide +kernel
theorem dX10_meanDegree_0 : decode cX10_meanDegree 0 = .ok (.aload_n 0, 1) := by decide +kernel
theorem dX10_meanDegree_1 : decode cX10_meanDegree 1 = .ok (.iconst 0, 1) := by decide +kernel
theorem dX10_meanDegree_2 : decode cX10_meanDegree 2 = .ok (.putfield 54, 3) := by decide +kernel
theorem dX10_meanDegree_5 : decode cX10_meanDegree 5 = .ok (.iconst 2, 1) := by decide +kernel
theorem dX10_meanDegree_6 : decode cX10_meanDegree 6 = .ok (.aload_n 0, 1) := by decide +kernel
theorem dX10_meanDegree_7 : decode cX10_meanDegree 7 = .ok (.iconst 2, 1) := by decide +kernel
theorem dX10_meanDegree_8 : decode cX10_meanDegree 8 = .ok (.invokevirtual 146, 3) := by decide +kernel
theorem dX10_meanDegree_11 : decode cX10_meanDegree 11 = .ok (.imul, 1) := by decide +kernel
theorem dX10_meanDegree_12 : decode cX10_meanDegree 12 = .ok (.i2d, 1) := by decide +kernel
theorem dX10_meanDegree_13 : decode cX10_meanDegree 13 = .ok (.aload_n 0, 1) := by decide +kernel
theorem dX10_meanDegree_14 : decode cX10_meanDegree 14 = .ok (.getfield 7, 3) := by decide +kernel
theorem dX10_meanDegree_17 : decode cX10_meanDegree 17 = .ok (.iconst 0, 1) := by decide +kernel
theorem dX10_meanDegree_18 : decode cX10_meanDegree 18 = .ok (.iaload, 1) := by decide +kernel
theorem dX10_meanDegree_19 : decode cX10_meanDegree 19 = .ok (.i2d, 1) := by decide +kernel
theorem dX10_meanDegree_20 : decode cX10_meanDegree 20 = .ok (.ddiv, 1) := by decide +kernel
theorem dX10_meanDegree_21 : decode cX10_meanDegree 21 = .ok (.dreturn, 1) := by decide +kernel
theorem dX10_realisesByLoops_0 : decode cX10_realisesByLoops 0 = .ok (.aload_n 0, 1) := by decide +kernel
theorem dX10_realisesByLoops_1 : decode cX10_realisesByLoops 1 = .ok (.iconst 2, 1) := by decide +kernel
theorem dX10_realisesByLoops_2 : decode cX10_realisesByLoops 2 = .ok (.invokevirtual 259, 3) := by decide +kernel
theorem dX10_realisesByLoops_5 : decode cX10_realisesByLoops 5 = .ok (.iconst (-1), 1) := by decide +kernel
theorem dX10_realisesByLoops_6 : decode cX10_realisesByLoops 6 = .ok (.istore_n 1, 1) := by decide +kernel
theorem dX10_realisesByLoops_7 : decode cX10_realisesByLoops 7 = .ok (.iconst 0, 1) := by decide +kernel
theorem dX10_realisesByLoops_8 : decode cX10_realisesByLoops 8 = .ok (.istore_n 2, 1) := by decide +kernel
theorem dX10_realisesByLoops_9 : decode cX10_realisesByLoops 9 = .ok (.iload_n 2, 1) := by decide +kernel
theorem dX10_realisesByLoops_10 : decode cX10_realisesByLoops 10 = .ok (.aload_n 0, 1) := by decide +kernel
theorem dX10_realisesByLoops_11 : decode cX10_realisesByLoops 11 = .ok (.getfield 7, 3) := by decide +kernel
theorem dX10_realisesByLoops_14 : decode cX10_realisesByLoops 14 = .ok (.iconst 0, 1) := by decide +kernel
theorem dX10_realisesByLoops_15 : decode cX10_realisesByLoops 15 = .ok (.iaload, 1) := by decide +kernel
theorem dX10_realisesByLoops_16 : decode cX10_realisesByLoops 16 = .ok (.if_icmp .ge 68, 3) := by decide +kernel
theorem dX10_realisesByLoops_19 : decode cX10_realisesByLoops 19 = .ok (.aload_n 0, 1) := by decide +kernel
theorem dX10_realisesByLoops_20 : decode cX10_realisesByLoops 20 = .ok (.iconst 2, 1) := by decide +kernel
theorem dX10_realisesByLoops_21 : decode cX10_realisesByLoops 21 = .ok (.iload_n 2, 1) := by decide +kernel
theorem dX10_realisesByLoops_22 : decode cX10_realisesByLoops 22 = .ok (.iload_n 2, 1) := by decide +kernel
theorem dX10_realisesByLoops_23 : decode cX10_realisesByLoops 23 = .ok (.aload_n 0, 1) := by decide +kernel
theorem dX10_realisesByLoops_24 : decode cX10_realisesByLoops 24 = .ok (.getfield 38, 3) := by decide +kernel
theorem dX10_realisesByLoops_27 : decode cX10_realisesByLoops 27 = .ok (.iload_n 2, 1) := by decide +kernel
theorem dX10_realisesByLoops_28 : decode cX10_realisesByLoops 28 = .ok (.iaload, 1) := by decide +kernel
theorem dX10_realisesByLoops_29 : decode cX10_realisesByLoops 29 = .ok (.iconst 2, 1) := by decide +kernel
theorem dX10_realisesByLoops_30 : decode cX10_realisesByLoops 30 = .ok (.idiv, 1) := by decide +kernel
theorem dX10_realisesByLoops_31 : decode cX10_realisesByLoops 31 = .ok (.invokevirtual 149, 3) := by decide +kernel
theorem dX10_realisesByLoops_34 : decode cX10_realisesByLoops 34 = .ok (.aload_n 0, 1) := by decide +kernel
theorem dX10_realisesByLoops_35 : decode cX10_realisesByLoops 35 = .ok (.getfield 38, 3) := by decide +kernel
theorem dX10_realisesByLoops_38 : decode cX10_realisesByLoops 38 = .ok (.iload_n 2, 1) := by decide +kernel
theorem dX10_realisesByLoops_39 : decode cX10_realisesByLoops 39 = .ok (.iaload, 1) := by decide +kernel
theorem dX10_realisesByLoops_40 : decode cX10_realisesByLoops 40 = .ok (.iconst 2, 1) := by decide +kernel
theorem dX10_realisesByLoops_41 : decode cX10_realisesByLoops 41 = .ok (.irem, 1) := by decide +kernel
theorem dX10_realisesByLoops_42 : decode cX10_realisesByLoops 42 = .ok (.iconst 1, 1) := by decide +kernel
theorem dX10_realisesByLoops_43 : decode cX10_realisesByLoops 43 = .ok (.if_icmp .ne 13, 3) := by decide +kernel
theorem dX10_realisesByLoops_46 : decode cX10_realisesByLoops 46 = .ok (.iload_n 1, 1) := by decide +kernel
theorem dX10_realisesByLoops_47 : decode cX10_realisesByLoops 47 = .ok (.iconst (-1), 1) := by decide +kernel
theorem dX10_realisesByLoops_48 : decode cX10_realisesByLoops 48 = .ok (.if_icmp .ne 8, 3) := by decide +kernel
theorem dX10_realisesByLoops_51 : decode cX10_realisesByLoops 51 = .ok (.iload_n 2, 1) := by decide +kernel
theorem dX10_realisesByLoops_52 : decode cX10_realisesByLoops 52 = .ok (.istore_n 1, 1) := by decide +kernel
theorem dX10_realisesByLoops_53 : decode cX10_realisesByLoops 53 = .ok (.goto 25, 3) := by decide +kernel
theorem dX10_realisesByLoops_56 : decode cX10_realisesByLoops 56 = .ok (.aload_n 0, 1) := by decide +kernel
theorem dX10_realisesByLoops_57 : decode cX10_realisesByLoops 57 = .ok (.getfield 38, 3) := by decide +kernel
theorem dX10_realisesByLoops_60 : decode cX10_realisesByLoops 60 = .ok (.iload_n 2, 1) := by decide +kernel
theorem dX10_realisesByLoops_61 : decode cX10_realisesByLoops 61 = .ok (.iaload, 1) := by decide +kernel
theorem dX10_realisesByLoops_62 : decode cX10_realisesByLoops 62 = .ok (.iconst 2, 1) := by decide +kernel
theorem dX10_realisesByLoops_63 : decode cX10_realisesByLoops 63 = .ok (.irem, 1) := by decide +kernel
theorem dX10_realisesByLoops_64 : decode cX10_realisesByLoops 64 = .ok (.iconst 1, 1) := by decide +kernel
theorem dX10_realisesByLoops_65 : decode cX10_realisesByLoops 65 = .ok (.if_icmp .ne 13, 3) := by decide +kernel
theorem dX10_realisesByLoops_68 : decode cX10_realisesByLoops 68 = .ok (.aload_n 0, 1) := by decide +kernel
theorem dX10_realisesByLoops_69 : decode cX10_realisesByLoops 69 = .ok (.iconst 2, 1) := by decide +kernel
theorem dX10_realisesByLoops_70 : decode cX10_realisesByLoops 70 = .ok (.iload_n 1, 1) := by decide +kernel
theorem dX10_realisesByLoops_71 : decode cX10_realisesByLoops 71 = .ok (.iload_n 2, 1) := by decide +kernel
theorem dX10_realisesByLoops_72 : decode cX10_realisesByLoops 72 = .ok (.iconst 1, 1) := by decide +kernel
theorem dX10_realisesByLoops_73 : decode cX10_realisesByLoops 73 = .ok (.invokevirtual 149, 3) := by decide +kernel
theorem dX10_realisesByLoops_76 : decode cX10_realisesByLoops 76 = .ok (.iconst (-1), 1) := by decide +kernel
theorem dX10_realisesByLoops_77 : decode cX10_realisesByLoops 77 = .ok (.istore_n 1, 1) := by decide +kernel
theorem dX10_realisesByLoops_78 : decode cX10_realisesByLoops 78 = .ok (.iinc 2 1, 3) := by decide +kernel
theorem dX10_realisesByLoops_81 : decode cX10_realisesByLoops 81 = .ok (.goto (-72), 3) := by decide +kernel
theorem dX10_realisesByLoops_84 : decode cX10_realisesByLoops 84 = .ok (.return_, 1) := by decide +kernel
theorem dX10_neediest_0 : decode cX10_neediest 0 = .ok (.iconst (-1), 1) := by decide +kernel
theorem dX10_neediest_1 : decode cX10_neediest 1 = .ok (.istore_n 1, 1) := by decide +kernel
theorem dX10_neediest_2 : decode cX10_neediest 2 = .ok (.iconst 0, 1) := by decide +kernel
theorem dX10_neediest_3 : decode cX10_neediest 3 = .ok (.istore_n 2, 1) := by decide +kernel
theorem dX10_neediest_4 : decode cX10_neediest 4 = .ok (.iload_n 2, 1) := by decide +kernel
theorem dX10_neediest_5 : decode cX10_neediest 5 = .ok (.aload_n 0, 1) := by decide +kernel
theorem dX10_neediest_6 : decode cX10_neediest 6 = .ok (.getfield 7, 3) := by decide +kernel
theorem dX10_neediest_9 : decode cX10_neediest 9 = .ok (.iconst 0, 1) := by decide +kernel
theorem dX10_neediest_10 : decode cX10_neediest 10 = .ok (.iaload, 1) := by decide +kernel
theorem dX10_neediest_11 : decode cX10_neediest 11 = .ok (.if_icmp .ge 44, 3) := by decide +kernel
theorem dX10_neediest_14 : decode cX10_neediest 14 = .ok (.aload_n 0, 1) := by decide +kernel
theorem dX10_neediest_15 : decode cX10_neediest 15 = .ok (.getfield 41, 3) := by decide +kernel
theorem dX10_neediest_18 : decode cX10_neediest 18 = .ok (.iload_n 2, 1) := by decide +kernel
theorem dX10_neediest_19 : decode cX10_neediest 19 = .ok (.baload, 1) := by decide +kernel
theorem dX10_neediest_20 : decode cX10_neediest 20 = .ok (.ifCond .ne 29, 3) := by decide +kernel
theorem dX10_neediest_23 : decode cX10_neediest 23 = .ok (.aload_n 0, 1) := by decide +kernel
theorem dX10_neediest_24 : decode cX10_neediest 24 = .ok (.getfield 38, 3) := by decide +kernel
theorem dX10_neediest_27 : decode cX10_neediest 27 = .ok (.iload_n 2, 1) := by decide +kernel
theorem dX10_neediest_28 : decode cX10_neediest 28 = .ok (.iaload, 1) := by decide +kernel
theorem dX10_neediest_29 : decode cX10_neediest 29 = .ok (.iload_n 1, 1) := by decide +kernel
theorem dX10_neediest_30 : decode cX10_neediest 30 = .ok (.iconst (-1), 1) := by decide +kernel
theorem dX10_neediest_31 : decode cX10_neediest 31 = .ok (.if_icmp .ne 7, 3) := by decide +kernel
theorem dX10_neediest_34 : decode cX10_neediest 34 = .ok (.iconst 0, 1) := by decide +kernel
theorem dX10_neediest_35 : decode cX10_neediest 35 = .ok (.goto 9, 3) := by decide +kernel
theorem dX10_neediest_38 : decode cX10_neediest 38 = .ok (.aload_n 0, 1) := by decide +kernel
theorem dX10_neediest_39 : decode cX10_neediest 39 = .ok (.getfield 38, 3) := by decide +kernel
theorem dX10_neediest_42 : decode cX10_neediest 42 = .ok (.iload_n 1, 1) := by decide +kernel
theorem dX10_neediest_43 : decode cX10_neediest 43 = .ok (.iaload, 1) := by decide +kernel
theorem dX10_neediest_44 : decode cX10_neediest 44 = .ok (.if_icmp .le 5, 3) := by decide +kernel
theorem dX10_neediest_47 : decode cX10_neediest 47 = .ok (.iload_n 2, 1) := by decide +kernel
theorem dX10_neediest_48 : decode cX10_neediest 48 = .ok (.istore_n 1, 1) := by decide +kernel
theorem dX10_neediest_49 : decode cX10_neediest 49 = .ok (.iinc 2 1, 3) := by decide +kernel
theorem dX10_neediest_52 : decode cX10_neediest 52 = .ok (.goto (-48), 3) := by decide +kernel
theorem dX10_neediest_55 : decode cX10_neediest 55 = .ok (.iload_n 1, 1) := by decide +kernel
theorem dX10_neediest_56 : decode cX10_neediest 56 = .ok (.ireturn, 1) := by decide +kernel
theorem dX10_freesAll_0 : decode cX10_freesAll 0 = .ok (.iconst 0, 1) := by decide +kernel
theorem dX10_freesAll_1 : decode cX10_freesAll 1 = .ok (.istore_n 1, 1) := by decide +kernel
theorem dX10_freesAll_2 : decode cX10_freesAll 2 = .ok (.iload_n 1, 1) := by decide +kernel
theorem dX10_freesAll_3 : decode cX10_freesAll 3 = .ok (.bipush 8, 2) := by decide +kernel
theorem dX10_freesAll_5 : decode cX10_freesAll 5 = .ok (.if_icmp .ge 16, 3) := by decide +kernel
theorem dX10_freesAll_8 : decode cX10_freesAll 8 = .ok (.aload_n 0, 1) := by decide +kernel
theorem dX10_freesAll_9 : decode cX10_freesAll 9 = .ok (.getfield 41, 3) := by decide +kernel
theorem dX10_freesAll_12 : decode cX10_freesAll 12 = .ok (.iload_n 1, 1) := by decide +kernel
theorem dX10_freesAll_13 : decode cX10_freesAll 13 = .ok (.iconst 0, 1) := by decide +kernel
theorem dX10_freesAll_14 : decode cX10_freesAll 14 = .ok (.bastore, 1) := by decide +kernel
theorem dX10_freesAll_15 : decode cX10_freesAll 15 = .ok (.iinc 1 1, 3) := by decide +kernel
theorem dX10_freesAll_18 : decode cX10_freesAll 18 = .ok (.goto (-16), 3) := by decide +kernel
theorem dX10_freesAll_21 : decode cX10_freesAll 21 = .ok (.return_, 1) := by decide +kernel
theorem dX10_joins_0 : decode cX10_joins 0 = .ok (.aload_n 0, 1) := by decide +kernel
theorem dX10_joins_1 : decode cX10_joins 1 = .ok (.invokevirtual 262, 3) := by decide +kernel
theorem dX10_joins_4 : decode cX10_joins 4 = .ok (.aload_n 0, 1) := by decide +kernel
theorem dX10_joins_5 : decode cX10_joins 5 = .ok (.getfield 41, 3) := by decide +kernel
theorem dX10_joins_8 : decode cX10_joins 8 = .ok (.iload_n 1, 1) := by decide +kernel
theorem dX10_joins_9 : decode cX10_joins 9 = .ok (.iconst 1, 1) := by decide +kernel
theorem dX10_joins_10 : decode cX10_joins 10 = .ok (.bastore, 1) := by decide +kernel
theorem dX10_joins_11 : decode cX10_joins 11 = .ok (.iconst 0, 1) := by decide +kernel
theorem dX10_joins_12 : decode cX10_joins 12 = .ok (.istore_n 3, 1) := by decide +kernel
theorem dX10_joins_13 : decode cX10_joins 13 = .ok (.iload_n 3, 1) := by decide +kernel
theorem dX10_joins_14 : decode cX10_joins 14 = .ok (.iload_n 2, 1) := by decide +kernel
theorem dX10_joins_15 : decode cX10_joins 15 = .ok (.if_icmp .ge 60, 3) := by decide +kernel
theorem dX10_joins_18 : decode cX10_joins 18 = .ok (.aload_n 0, 1) := by decide +kernel
theorem dX10_joins_19 : decode cX10_joins 19 = .ok (.invokevirtual 265, 3) := by decide +kernel
theorem dX10_joins_22 : decode cX10_joins 22 = .ok (.istore 4, 2) := by decide +kernel
theorem dX10_joins_24 : decode cX10_joins 24 = .ok (.iload 4, 2) := by decide +kernel
theorem dX10_joins_26 : decode cX10_joins 26 = .ok (.iconst (-1), 1) := by decide +kernel
theorem dX10_joins_27 : decode cX10_joins 27 = .ok (.if_icmp .ne 4, 3) := by decide +kernel
theorem dX10_joins_30 : decode cX10_joins 30 = .ok (.return_, 1) := by decide +kernel
theorem dX10_joins_31 : decode cX10_joins 31 = .ok (.aload_n 0, 1) := by decide +kernel
theorem dX10_joins_32 : decode cX10_joins 32 = .ok (.getfield 41, 3) := by decide +kernel
theorem dX10_joins_35 : decode cX10_joins 35 = .ok (.iload 4, 2) := by decide +kernel
theorem dX10_joins_37 : decode cX10_joins 37 = .ok (.iconst 1, 1) := by decide +kernel
theorem dX10_joins_38 : decode cX10_joins 38 = .ok (.bastore, 1) := by decide +kernel
theorem dX10_joins_39 : decode cX10_joins 39 = .ok (.aload_n 0, 1) := by decide +kernel
theorem dX10_joins_40 : decode cX10_joins 40 = .ok (.iconst 2, 1) := by decide +kernel
theorem dX10_joins_41 : decode cX10_joins 41 = .ok (.iload_n 1, 1) := by decide +kernel
theorem dX10_joins_42 : decode cX10_joins 42 = .ok (.iload 4, 2) := by decide +kernel
theorem dX10_joins_44 : decode cX10_joins 44 = .ok (.iconst 1, 1) := by decide +kernel
theorem dX10_joins_45 : decode cX10_joins 45 = .ok (.invokevirtual 149, 3) := by decide +kernel
theorem dX10_joins_48 : decode cX10_joins 48 = .ok (.aload_n 0, 1) := by decide +kernel
theorem dX10_joins_49 : decode cX10_joins 49 = .ok (.getfield 38, 3) := by decide +kernel
theorem dX10_joins_52 : decode cX10_joins 52 = .ok (.iload_n 1, 1) := by decide +kernel
theorem dX10_joins_53 : decode cX10_joins 53 = .ok (.dup2, 1) := by decide +kernel
theorem dX10_joins_54 : decode cX10_joins 54 = .ok (.iaload, 1) := by decide +kernel
theorem dX10_joins_55 : decode cX10_joins 55 = .ok (.iconst 1, 1) := by decide +kernel
theorem dX10_joins_56 : decode cX10_joins 56 = .ok (.isub, 1) := by decide +kernel
theorem dX10_joins_57 : decode cX10_joins 57 = .ok (.iastore, 1) := by decide +kernel
theorem dX10_joins_58 : decode cX10_joins 58 = .ok (.aload_n 0, 1) := by decide +kernel
theorem dX10_joins_59 : decode cX10_joins 59 = .ok (.getfield 38, 3) := by decide +kernel
theorem dX10_joins_62 : decode cX10_joins 62 = .ok (.iload 4, 2) := by decide +kernel
theorem dX10_joins_64 : decode cX10_joins 64 = .ok (.dup2, 1) := by decide +kernel
theorem dX10_joins_65 : decode cX10_joins 65 = .ok (.iaload, 1) := by decide +kernel
theorem dX10_joins_66 : decode cX10_joins 66 = .ok (.iconst 1, 1) := by decide +kernel
theorem dX10_joins_67 : decode cX10_joins 67 = .ok (.isub, 1) := by decide +kernel
theorem dX10_joins_68 : decode cX10_joins 68 = .ok (.iastore, 1) := by decide +kernel
theorem dX10_joins_69 : decode cX10_joins 69 = .ok (.iinc 3 1, 3) := by decide +kernel
theorem dX10_joins_72 : decode cX10_joins 72 = .ok (.goto (-59), 3) := by decide +kernel
theorem dX10_joins_75 : decode cX10_joins 75 = .ok (.return_, 1) := by decide +kernel
theorem dX10_realises_0 : decode cX10_realises 0 = .ok (.iconst 0, 1) := by decide +kernel
theorem dX10_realises_1 : decode cX10_realises 1 = .ok (.istore_n 2, 1) := by decide +kernel
theorem dX10_realises_2 : decode cX10_realises 2 = .ok (.iload_n 2, 1) := by decide +kernel
theorem dX10_realises_3 : decode cX10_realises 3 = .ok (.aload_n 0, 1) := by decide +kernel
theorem dX10_realises_4 : decode cX10_realises 4 = .ok (.getfield 7, 3) := by decide +kernel
theorem dX10_realises_7 : decode cX10_realises 7 = .ok (.iconst 0, 1) := by decide +kernel
theorem dX10_realises_8 : decode cX10_realises 8 = .ok (.iaload, 1) := by decide +kernel
theorem dX10_realises_9 : decode cX10_realises 9 = .ok (.if_icmp .ge 21, 3) := by decide +kernel
theorem dX10_realises_12 : decode cX10_realises 12 = .ok (.aload_n 0, 1) := by decide +kernel
theorem dX10_realises_13 : decode cX10_realises 13 = .ok (.getfield 38, 3) := by decide +kernel
theorem dX10_realises_16 : decode cX10_realises 16 = .ok (.iload_n 2, 1) := by decide +kernel
theorem dX10_realises_17 : decode cX10_realises 17 = .ok (.aload_n 0, 1) := by decide +kernel
theorem dX10_realises_18 : decode cX10_realises 18 = .ok (.iconst 2, 1) := by decide +kernel
theorem dX10_realises_19 : decode cX10_realises 19 = .ok (.iload_n 2, 1) := by decide +kernel
theorem dX10_realises_20 : decode cX10_realises 20 = .ok (.invokevirtual 213, 3) := by decide +kernel
theorem dX10_realises_23 : decode cX10_realises 23 = .ok (.iastore, 1) := by decide +kernel
theorem dX10_realises_24 : decode cX10_realises 24 = .ok (.iinc 2 1, 3) := by decide +kernel
theorem dX10_realises_27 : decode cX10_realises 27 = .ok (.goto (-25), 3) := by decide +kernel
theorem dX10_realises_30 : decode cX10_realises 30 = .ok (.iload_n 1, 1) := by decide +kernel
theorem dX10_realises_31 : decode cX10_realises 31 = .ok (.ifCond .ne 8, 3) := by decide +kernel
theorem dX10_realises_34 : decode cX10_realises 34 = .ok (.aload_n 0, 1) := by decide +kernel
theorem dX10_realises_35 : decode cX10_realises 35 = .ok (.invokevirtual 143, 3) := by decide +kernel
theorem dX10_realises_38 : decode cX10_realises 38 = .ok (.return_, 1) := by decide +kernel
theorem dX10_realises_39 : decode cX10_realises 39 = .ok (.aload_n 0, 1) := by decide +kernel
theorem dX10_realises_40 : decode cX10_realises 40 = .ok (.iconst 2, 1) := by decide +kernel
theorem dX10_realises_41 : decode cX10_realises 41 = .ok (.invokevirtual 259, 3) := by decide +kernel
theorem dX10_realises_44 : decode cX10_realises 44 = .ok (.aload_n 0, 1) := by decide +kernel
theorem dX10_realises_45 : decode cX10_realises 45 = .ok (.invokevirtual 262, 3) := by decide +kernel
theorem dX10_realises_48 : decode cX10_realises 48 = .ok (.aload_n 0, 1) := by decide +kernel
theorem dX10_realises_49 : decode cX10_realises 49 = .ok (.invokevirtual 265, 3) := by decide +kernel
theorem dX10_realises_52 : decode cX10_realises 52 = .ok (.istore_n 2, 1) := by decide +kernel
theorem dX10_realises_53 : decode cX10_realises 53 = .ok (.iload_n 2, 1) := by decide +kernel
theorem dX10_realises_54 : decode cX10_realises 54 = .ok (.iconst (-1), 1) := by decide +kernel
theorem dX10_realises_55 : decode cX10_realises 55 = .ok (.if_icmp .eq 35, 3) := by decide +kernel
theorem dX10_realises_58 : decode cX10_realises 58 = .ok (.aload_n 0, 1) := by decide +kernel
theorem dX10_realises_59 : decode cX10_realises 59 = .ok (.iload_n 2, 1) := by decide +kernel
theorem dX10_realises_60 : decode cX10_realises 60 = .ok (.iload_n 1, 1) := by decide +kernel
theorem dX10_realises_61 : decode cX10_realises 61 = .ok (.iconst 1, 1) := by decide +kernel
theorem dX10_realises_62 : decode cX10_realises 62 = .ok (.if_icmp .ne 7, 3) := by decide +kernel
theorem dX10_realises_65 : decode cX10_realises 65 = .ok (.iconst 1, 1) := by decide +kernel
theorem dX10_realises_66 : decode cX10_realises 66 = .ok (.goto 9, 3) := by decide +kernel
theorem dX10_realises_69 : decode cX10_realises 69 = .ok (.aload_n 0, 1) := by decide +kernel
theorem dX10_realises_70 : decode cX10_realises 70 = .ok (.getfield 38, 3) := by decide +kernel
theorem dX10_realises_73 : decode cX10_realises 73 = .ok (.iload_n 2, 1) := by decide +kernel
theorem dX10_realises_74 : decode cX10_realises 74 = .ok (.iaload, 1) := by decide +kernel
theorem dX10_realises_75 : decode cX10_realises 75 = .ok (.invokevirtual 268, 3) := by decide +kernel
theorem dX10_realises_78 : decode cX10_realises 78 = .ok (.aload_n 0, 1) := by decide +kernel
theorem dX10_realises_79 : decode cX10_realises 79 = .ok (.invokevirtual 262, 3) := by decide +kernel
theorem dX10_realises_82 : decode cX10_realises 82 = .ok (.aload_n 0, 1) := by decide +kernel
theorem dX10_realises_83 : decode cX10_realises 83 = .ok (.invokevirtual 265, 3) := by decide +kernel
theorem dX10_realises_86 : decode cX10_realises 86 = .ok (.istore_n 2, 1) := by decide +kernel
theorem dX10_realises_87 : decode cX10_realises 87 = .ok (.goto (-34), 3) := by decide +kernel
theorem dX10_realises_90 : decode cX10_realises 90 = .ok (.return_, 1) := by decide +kernel
theorem dX10_isSamePair_0 : decode cX10_isSamePair 0 = .ok (.iload_n 1, 1) := by decide +kernel
theorem dX10_isSamePair_1 : decode cX10_isSamePair 1 = .ok (.iload_n 3, 1) := by decide +kernel
theorem dX10_isSamePair_2 : decode cX10_isSamePair 2 = .ok (.if_icmp .ne 9, 3) := by decide +kernel
theorem dX10_isSamePair_5 : decode cX10_isSamePair 5 = .ok (.iload_n 2, 1) := by decide +kernel
theorem dX10_isSamePair_6 : decode cX10_isSamePair 6 = .ok (.iload 4, 2) := by decide +kernel
theorem dX10_isSamePair_8 : decode cX10_isSamePair 8 = .ok (.if_icmp .eq 14, 3) := by decide +kernel
theorem dX10_isSamePair_11 : decode cX10_isSamePair 11 = .ok (.iload_n 1, 1) := by decide +kernel
theorem dX10_isSamePair_12 : decode cX10_isSamePair 12 = .ok (.iload 4, 2) := by decide +kernel
theorem dX10_isSamePair_14 : decode cX10_isSamePair 14 = .ok (.if_icmp .ne 12, 3) := by decide +kernel
theorem dX10_isSamePair_17 : decode cX10_isSamePair 17 = .ok (.iload_n 2, 1) := by decide +kernel
theorem dX10_isSamePair_18 : decode cX10_isSamePair 18 = .ok (.iload_n 3, 1) := by decide +kernel
theorem dX10_isSamePair_19 : decode cX10_isSamePair 19 = .ok (.if_icmp .ne 7, 3) := by decide +kernel
theorem dX10_isSamePair_22 : decode cX10_isSamePair 22 = .ok (.iconst 1, 1) := by decide +kernel
theorem dX10_isSamePair_23 : decode cX10_isSamePair 23 = .ok (.goto 4, 3) := by decide +kernel
theorem dX10_isSamePair_26 : decode cX10_isSamePair 26 = .ok (.iconst 0, 1) := by decide +kernel
theorem dX10_isSamePair_27 : decode cX10_isSamePair 27 = .ok (.ireturn, 1) := by decide +kernel
theorem dX10_reasonBy_0 : decode cX10_reasonBy 0 = .ok (.aload_n 0, 1) := by decide +kernel
theorem dX10_reasonBy_1 : decode cX10_reasonBy 1 = .ok (.iconst 2, 1) := by decide +kernel
theorem dX10_reasonBy_2 : decode cX10_reasonBy 2 = .ok (.iload_n 2, 1) := by decide +kernel
theorem dX10_reasonBy_3 : decode cX10_reasonBy 3 = .ok (.iload_n 3, 1) := by decide +kernel
theorem dX10_reasonBy_4 : decode cX10_reasonBy 4 = .ok (.invokevirtual 68, 3) := by decide +kernel
theorem dX10_reasonBy_7 : decode cX10_reasonBy 7 = .ok (.ifCond .ne 5, 3) := by decide +kernel
theorem dX10_reasonBy_10 : decode cX10_reasonBy 10 = .ok (.iconst 1, 1) := by decide +kernel
theorem dX10_reasonBy_11 : decode cX10_reasonBy 11 = .ok (.ireturn, 1) := by decide +kernel
theorem dX10_reasonBy_12 : decode cX10_reasonBy 12 = .ok (.aload_n 0, 1) := by decide +kernel
theorem dX10_reasonBy_13 : decode cX10_reasonBy 13 = .ok (.iconst 2, 1) := by decide +kernel
theorem dX10_reasonBy_14 : decode cX10_reasonBy 14 = .ok (.iload 4, 2) := by decide +kernel
theorem dX10_reasonBy_16 : decode cX10_reasonBy 16 = .ok (.iload 5, 2) := by decide +kernel
theorem dX10_reasonBy_18 : decode cX10_reasonBy 18 = .ok (.invokevirtual 68, 3) := by decide +kernel
theorem dX10_reasonBy_21 : decode cX10_reasonBy 21 = .ok (.aload_n 0, 1) := by decide +kernel
theorem dX10_reasonBy_22 : decode cX10_reasonBy 22 = .ok (.iload_n 2, 1) := by decide +kernel
theorem dX10_reasonBy_23 : decode cX10_reasonBy 23 = .ok (.iload_n 3, 1) := by decide +kernel
theorem dX10_reasonBy_24 : decode cX10_reasonBy 24 = .ok (.iload 4, 2) := by decide +kernel
theorem dX10_reasonBy_26 : decode cX10_reasonBy 26 = .ok (.iload 5, 2) := by decide +kernel
theorem dX10_reasonBy_28 : decode cX10_reasonBy 28 = .ok (.invokevirtual 271, 3) := by decide +kernel
theorem dX10_reasonBy_31 : decode cX10_reasonBy 31 = .ok (.ifCond .eq 7, 3) := by decide +kernel
theorem dX10_reasonBy_34 : decode cX10_reasonBy 34 = .ok (.iconst 1, 1) := by decide +kernel
theorem dX10_reasonBy_35 : decode cX10_reasonBy 35 = .ok (.goto 4, 3) := by decide +kernel
theorem dX10_reasonBy_38 : decode cX10_reasonBy 38 = .ok (.iconst 0, 1) := by decide +kernel
theorem dX10_reasonBy_39 : decode cX10_reasonBy 39 = .ok (.isub, 1) := by decide +kernel
theorem dX10_reasonBy_40 : decode cX10_reasonBy 40 = .ok (.iconst 1, 1) := by decide +kernel
theorem dX10_reasonBy_41 : decode cX10_reasonBy 41 = .ok (.if_icmp .ge 5, 3) := by decide +kernel
theorem dX10_reasonBy_44 : decode cX10_reasonBy 44 = .ok (.iconst 2, 1) := by decide +kernel
theorem dX10_reasonBy_45 : decode cX10_reasonBy 45 = .ok (.ireturn, 1) := by decide +kernel
theorem dX10_reasonBy_46 : decode cX10_reasonBy 46 = .ok (.iload_n 2, 1) := by decide +kernel
theorem dX10_reasonBy_47 : decode cX10_reasonBy 47 = .ok (.iload 5, 2) := by decide +kernel
theorem dX10_reasonBy_49 : decode cX10_reasonBy 49 = .ok (.if_icmp .eq 9, 3) := by decide +kernel
theorem dX10_reasonBy_52 : decode cX10_reasonBy 52 = .ok (.iload_n 3, 1) := by decide +kernel
theorem dX10_reasonBy_53 : decode cX10_reasonBy 53 = .ok (.iload 4, 2) := by decide +kernel
theorem dX10_reasonBy_55 : decode cX10_reasonBy 55 = .ok (.if_icmp .ne 5, 3) := by decide +kernel
theorem dX10_reasonBy_58 : decode cX10_reasonBy 58 = .ok (.iconst 3, 1) := by decide +kernel
theorem dX10_reasonBy_59 : decode cX10_reasonBy 59 = .ok (.ireturn, 1) := by decide +kernel
theorem dX10_reasonBy_60 : decode cX10_reasonBy 60 = .ok (.iload_n 1, 1) := by decide +kernel
theorem dX10_reasonBy_61 : decode cX10_reasonBy 61 = .ok (.ifCond .le 17, 3) := by decide +kernel
theorem dX10_reasonBy_64 : decode cX10_reasonBy 64 = .ok (.iload_n 2, 1) := by decide +kernel
theorem dX10_reasonBy_65 : decode cX10_reasonBy 65 = .ok (.iload 4, 2) := by decide +kernel
theorem dX10_reasonBy_67 : decode cX10_reasonBy 67 = .ok (.if_icmp .eq 9, 3) := by decide +kernel
theorem dX10_reasonBy_70 : decode cX10_reasonBy 70 = .ok (.iload_n 3, 1) := by decide +kernel
theorem dX10_reasonBy_71 : decode cX10_reasonBy 71 = .ok (.iload 5, 2) := by decide +kernel
theorem dX10_reasonBy_73 : decode cX10_reasonBy 73 = .ok (.if_icmp .ne 5, 3) := by decide +kernel
theorem dX10_reasonBy_76 : decode cX10_reasonBy 76 = .ok (.iconst 4, 1) := by decide +kernel
theorem dX10_reasonBy_77 : decode cX10_reasonBy 77 = .ok (.ireturn, 1) := by decide +kernel
theorem dX10_reasonBy_78 : decode cX10_reasonBy 78 = .ok (.iload_n 1, 1) := by decide +kernel
theorem dX10_reasonBy_79 : decode cX10_reasonBy 79 = .ok (.iconst 2, 1) := by decide +kernel
theorem dX10_reasonBy_80 : decode cX10_reasonBy 80 = .ok (.if_icmp .ne 20, 3) := by decide +kernel
theorem dX10_reasonBy_83 : decode cX10_reasonBy 83 = .ok (.aload_n 0, 1) := by decide +kernel
theorem dX10_reasonBy_84 : decode cX10_reasonBy 84 = .ok (.iload_n 2, 1) := by decide +kernel
theorem dX10_reasonBy_85 : decode cX10_reasonBy 85 = .ok (.iload_n 3, 1) := by decide +kernel
theorem dX10_reasonBy_86 : decode cX10_reasonBy 86 = .ok (.iload 4, 2) := by decide +kernel
theorem dX10_reasonBy_88 : decode cX10_reasonBy 88 = .ok (.iload 5, 2) := by decide +kernel
theorem dX10_reasonBy_90 : decode cX10_reasonBy 90 = .ok (.invokevirtual 275, 3) := by decide +kernel
theorem dX10_reasonBy_93 : decode cX10_reasonBy 93 = .ok (.ifCond .eq 7, 3) := by decide +kernel
theorem dX10_reasonBy_96 : decode cX10_reasonBy 96 = .ok (.iconst 5, 1) := by decide +kernel
theorem dX10_reasonBy_97 : decode cX10_reasonBy 97 = .ok (.goto 4, 3) := by decide +kernel
theorem dX10_reasonBy_100 : decode cX10_reasonBy 100 = .ok (.iconst 0, 1) := by decide +kernel
theorem dX10_reasonBy_101 : decode cX10_reasonBy 101 = .ok (.ireturn, 1) := by decide +kernel
theorem dX10_wouldDouble_0 : decode cX10_wouldDouble 0 = .ok (.aload_n 0, 1) := by decide +kernel
theorem dX10_wouldDouble_1 : decode cX10_wouldDouble 1 = .ok (.iconst 2, 1) := by decide +kernel
theorem dX10_wouldDouble_2 : decode cX10_wouldDouble 2 = .ok (.iload_n 1, 1) := by decide +kernel
theorem dX10_wouldDouble_3 : decode cX10_wouldDouble 3 = .ok (.iload_n 2, 1) := by decide +kernel
theorem dX10_wouldDouble_4 : decode cX10_wouldDouble 4 = .ok (.iconst (-1), 1) := by decide +kernel
theorem dX10_wouldDouble_5 : decode cX10_wouldDouble 5 = .ok (.invokevirtual 149, 3) := by decide +kernel
theorem dX10_wouldDouble_8 : decode cX10_wouldDouble 8 = .ok (.aload_n 0, 1) := by decide +kernel
theorem dX10_wouldDouble_9 : decode cX10_wouldDouble 9 = .ok (.iconst 2, 1) := by decide +kernel
theorem dX10_wouldDouble_10 : decode cX10_wouldDouble 10 = .ok (.iload_n 3, 1) := by decide +kernel
theorem dX10_wouldDouble_11 : decode cX10_wouldDouble 11 = .ok (.iload 4, 2) := by decide +kernel
theorem dX10_wouldDouble_13 : decode cX10_wouldDouble 13 = .ok (.iconst (-1), 1) := by decide +kernel
theorem dX10_wouldDouble_14 : decode cX10_wouldDouble 14 = .ok (.invokevirtual 149, 3) := by decide +kernel
theorem dX10_wouldDouble_17 : decode cX10_wouldDouble 17 = .ok (.aload_n 0, 1) := by decide +kernel
theorem dX10_wouldDouble_18 : decode cX10_wouldDouble 18 = .ok (.iconst 2, 1) := by decide +kernel
theorem dX10_wouldDouble_19 : decode cX10_wouldDouble 19 = .ok (.iload_n 1, 1) := by decide +kernel
theorem dX10_wouldDouble_20 : decode cX10_wouldDouble 20 = .ok (.iload_n 3, 1) := by decide +kernel
theorem dX10_wouldDouble_21 : decode cX10_wouldDouble 21 = .ok (.invokevirtual 68, 3) := by decide +kernel
theorem dX10_wouldDouble_24 : decode cX10_wouldDouble 24 = .ok (.ifCond .gt 26, 3) := by decide +kernel
theorem dX10_wouldDouble_27 : decode cX10_wouldDouble 27 = .ok (.aload_n 0, 1) := by decide +kernel
theorem dX10_wouldDouble_28 : decode cX10_wouldDouble 28 = .ok (.iconst 2, 1) := by decide +kernel
theorem dX10_wouldDouble_29 : decode cX10_wouldDouble 29 = .ok (.iload_n 2, 1) := by decide +kernel
theorem dX10_wouldDouble_30 : decode cX10_wouldDouble 30 = .ok (.iload 4, 2) := by decide +kernel
theorem dX10_wouldDouble_32 : decode cX10_wouldDouble 32 = .ok (.invokevirtual 68, 3) := by decide +kernel
theorem dX10_wouldDouble_35 : decode cX10_wouldDouble 35 = .ok (.ifCond .gt 15, 3) := by decide +kernel
theorem dX10_wouldDouble_38 : decode cX10_wouldDouble 38 = .ok (.aload_n 0, 1) := by decide +kernel
theorem dX10_wouldDouble_39 : decode cX10_wouldDouble 39 = .ok (.iload_n 1, 1) := by decide +kernel
theorem dX10_wouldDouble_40 : decode cX10_wouldDouble 40 = .ok (.iload_n 3, 1) := by decide +kernel
theorem dX10_wouldDouble_41 : decode cX10_wouldDouble 41 = .ok (.iload_n 2, 1) := by decide +kernel
theorem dX10_wouldDouble_42 : decode cX10_wouldDouble 42 = .ok (.iload 4, 2) := by decide +kernel
theorem dX10_wouldDouble_44 : decode cX10_wouldDouble 44 = .ok (.invokevirtual 271, 3) := by decide +kernel
theorem dX10_wouldDouble_47 : decode cX10_wouldDouble 47 = .ok (.ifCond .eq 7, 3) := by decide +kernel
theorem dX10_wouldDouble_50 : decode cX10_wouldDouble 50 = .ok (.iconst 1, 1) := by decide +kernel
theorem dX10_wouldDouble_51 : decode cX10_wouldDouble 51 = .ok (.goto 4, 3) := by decide +kernel
theorem dX10_wouldDouble_54 : decode cX10_wouldDouble 54 = .ok (.iconst 0, 1) := by decide +kernel
theorem dX10_wouldDouble_55 : decode cX10_wouldDouble 55 = .ok (.istore 5, 2) := by decide +kernel
theorem dX10_wouldDouble_57 : decode cX10_wouldDouble 57 = .ok (.aload_n 0, 1) := by decide +kernel
theorem dX10_wouldDouble_58 : decode cX10_wouldDouble 58 = .ok (.iconst 2, 1) := by decide +kernel
theorem dX10_wouldDouble_59 : decode cX10_wouldDouble 59 = .ok (.iload_n 1, 1) := by decide +kernel
theorem dX10_wouldDouble_60 : decode cX10_wouldDouble 60 = .ok (.iload_n 2, 1) := by decide +kernel
theorem dX10_wouldDouble_61 : decode cX10_wouldDouble 61 = .ok (.iconst 1, 1) := by decide +kernel
theorem dX10_wouldDouble_62 : decode cX10_wouldDouble 62 = .ok (.invokevirtual 149, 3) := by decide +kernel
theorem dX10_wouldDouble_65 : decode cX10_wouldDouble 65 = .ok (.aload_n 0, 1) := by decide +kernel
theorem dX10_wouldDouble_66 : decode cX10_wouldDouble 66 = .ok (.iconst 2, 1) := by decide +kernel
theorem dX10_wouldDouble_67 : decode cX10_wouldDouble 67 = .ok (.iload_n 3, 1) := by decide +kernel
theorem dX10_wouldDouble_68 : decode cX10_wouldDouble 68 = .ok (.iload 4, 2) := by decide +kernel
theorem dX10_wouldDouble_70 : decode cX10_wouldDouble 70 = .ok (.iconst 1, 1) := by decide +kernel
theorem dX10_wouldDouble_71 : decode cX10_wouldDouble 71 = .ok (.invokevirtual 149, 3) := by decide +kernel
theorem dX10_wouldDouble_74 : decode cX10_wouldDouble 74 = .ok (.iload 5, 2) := by decide +kernel
theorem dX10_wouldDouble_76 : decode cX10_wouldDouble 76 = .ok (.ireturn, 1) := by decide +kernel
theorem dX10_switches_0 : decode cX10_switches 0 = .ok (.aload_n 0, 1) := by decide +kernel
theorem dX10_switches_1 : decode cX10_switches 1 = .ok (.iconst 2, 1) := by decide +kernel
theorem dX10_switches_2 : decode cX10_switches 2 = .ok (.iload_n 1, 1) := by decide +kernel
theorem dX10_switches_3 : decode cX10_switches 3 = .ok (.iload_n 2, 1) := by decide +kernel
theorem dX10_switches_4 : decode cX10_switches 4 = .ok (.iconst (-1), 1) := by decide +kernel
theorem dX10_switches_5 : decode cX10_switches 5 = .ok (.invokevirtual 149, 3) := by decide +kernel
theorem dX10_switches_8 : decode cX10_switches 8 = .ok (.aload_n 0, 1) := by decide +kernel
theorem dX10_switches_9 : decode cX10_switches 9 = .ok (.iconst 2, 1) := by decide +kernel
theorem dX10_switches_10 : decode cX10_switches 10 = .ok (.iload_n 3, 1) := by decide +kernel
theorem dX10_switches_11 : decode cX10_switches 11 = .ok (.iload 4, 2) := by decide +kernel
theorem dX10_switches_13 : decode cX10_switches 13 = .ok (.iconst (-1), 1) := by decide +kernel
theorem dX10_switches_14 : decode cX10_switches 14 = .ok (.invokevirtual 149, 3) := by decide +kernel
theorem dX10_switches_17 : decode cX10_switches 17 = .ok (.aload_n 0, 1) := by decide +kernel
theorem dX10_switches_18 : decode cX10_switches 18 = .ok (.iconst 2, 1) := by decide +kernel
theorem dX10_switches_19 : decode cX10_switches 19 = .ok (.iload_n 1, 1) := by decide +kernel
theorem dX10_switches_20 : decode cX10_switches 20 = .ok (.iload_n 3, 1) := by decide +kernel
theorem dX10_switches_21 : decode cX10_switches 21 = .ok (.iconst 1, 1) := by decide +kernel
theorem dX10_switches_22 : decode cX10_switches 22 = .ok (.invokevirtual 149, 3) := by decide +kernel
theorem dX10_switches_25 : decode cX10_switches 25 = .ok (.aload_n 0, 1) := by decide +kernel
theorem dX10_switches_26 : decode cX10_switches 26 = .ok (.iconst 2, 1) := by decide +kernel
theorem dX10_switches_27 : decode cX10_switches 27 = .ok (.iload_n 2, 1) := by decide +kernel
theorem dX10_switches_28 : decode cX10_switches 28 = .ok (.iload 4, 2) := by decide +kernel
theorem dX10_switches_30 : decode cX10_switches 30 = .ok (.iconst 1, 1) := by decide +kernel
theorem dX10_switches_31 : decode cX10_switches 31 = .ok (.invokevirtual 149, 3) := by decide +kernel
theorem dX10_switches_34 : decode cX10_switches 34 = .ok (.return_, 1) := by decide +kernel
theorem dX10_takesBack_0 : decode cX10_takesBack 0 = .ok (.aload_n 0, 1) := by decide +kernel
theorem dX10_takesBack_1 : decode cX10_takesBack 1 = .ok (.iconst 2, 1) := by decide +kernel
theorem dX10_takesBack_2 : decode cX10_takesBack 2 = .ok (.iload_n 1, 1) := by decide +kernel
theorem dX10_takesBack_3 : decode cX10_takesBack 3 = .ok (.iload_n 3, 1) := by decide +kernel
theorem dX10_takesBack_4 : decode cX10_takesBack 4 = .ok (.iconst (-1), 1) := by decide +kernel
theorem dX10_takesBack_5 : decode cX10_takesBack 5 = .ok (.invokevirtual 149, 3) := by decide +kernel
theorem dX10_takesBack_8 : decode cX10_takesBack 8 = .ok (.aload_n 0, 1) := by decide +kernel
theorem dX10_takesBack_9 : decode cX10_takesBack 9 = .ok (.iconst 2, 1) := by decide +kernel
theorem dX10_takesBack_10 : decode cX10_takesBack 10 = .ok (.iload_n 2, 1) := by decide +kernel
theorem dX10_takesBack_11 : decode cX10_takesBack 11 = .ok (.iload 4, 2) := by decide +kernel
theorem dX10_takesBack_13 : decode cX10_takesBack 13 = .ok (.iconst (-1), 1) := by decide +kernel
theorem dX10_takesBack_14 : decode cX10_takesBack 14 = .ok (.invokevirtual 149, 3) := by decide +kernel
theorem dX10_takesBack_17 : decode cX10_takesBack 17 = .ok (.aload_n 0, 1) := by decide +kernel
theorem dX10_takesBack_18 : decode cX10_takesBack 18 = .ok (.iconst 2, 1) := by decide +kernel
theorem dX10_takesBack_19 : decode cX10_takesBack 19 = .ok (.iload_n 1, 1) := by decide +kernel
theorem dX10_takesBack_20 : decode cX10_takesBack 20 = .ok (.iload_n 2, 1) := by decide +kernel
theorem dX10_takesBack_21 : decode cX10_takesBack 21 = .ok (.iconst 1, 1) := by decide +kernel
theorem dX10_takesBack_22 : decode cX10_takesBack 22 = .ok (.invokevirtual 149, 3) := by decide +kernel
theorem dX10_takesBack_25 : decode cX10_takesBack 25 = .ok (.aload_n 0, 1) := by decide +kernel
theorem dX10_takesBack_26 : decode cX10_takesBack 26 = .ok (.iconst 2, 1) := by decide +kernel
theorem dX10_takesBack_27 : decode cX10_takesBack 27 = .ok (.iload_n 3, 1) := by decide +kernel
theorem dX10_takesBack_28 : decode cX10_takesBack 28 = .ok (.iload 4, 2) := by decide +kernel
theorem dX10_takesBack_30 : decode cX10_takesBack 30 = .ok (.iconst 1, 1) := by decide +kernel
theorem dX10_takesBack_31 : decode cX10_takesBack 31 = .ok (.invokevirtual 149, 3) := by decide +kernel
theorem dX10_takesBack_34 : decode cX10_takesBack 34 = .ok (.return_, 1) := by decide +kernel
theorem dX10_codeOf_0 : decode cX10_codeOf 0 = .ok (.iload_n 0, 1) := by decide +kernel
theorem dX10_codeOf_1 : decode cX10_codeOf 1 = .ok (.bipush 8, 2) := by decide +kernel
theorem dX10_codeOf_3 : decode cX10_codeOf 3 = .ok (.imul, 1) := by decide +kernel
theorem dX10_codeOf_4 : decode cX10_codeOf 4 = .ok (.iload_n 1, 1) := by decide +kernel
theorem dX10_codeOf_5 : decode cX10_codeOf 5 = .ok (.iadd, 1) := by decide +kernel
theorem dX10_codeOf_6 : decode cX10_codeOf 6 = .ok (.bipush 8, 2) := by decide +kernel
theorem dX10_codeOf_8 : decode cX10_codeOf 8 = .ok (.imul, 1) := by decide +kernel
theorem dX10_codeOf_9 : decode cX10_codeOf 9 = .ok (.iload_n 2, 1) := by decide +kernel
theorem dX10_codeOf_10 : decode cX10_codeOf 10 = .ok (.iadd, 1) := by decide +kernel
theorem dX10_codeOf_11 : decode cX10_codeOf 11 = .ok (.bipush 8, 2) := by decide +kernel
theorem dX10_codeOf_13 : decode cX10_codeOf 13 = .ok (.imul, 1) := by decide +kernel
theorem dX10_codeOf_14 : decode cX10_codeOf 14 = .ok (.iload_n 3, 1) := by decide +kernel
theorem dX10_codeOf_15 : decode cX10_codeOf 15 = .ok (.iadd, 1) := by decide +kernel
theorem dX10_codeOf_16 : decode cX10_codeOf 16 = .ok (.ireturn, 1) := by decide +kernel
theorem dX10_partOf_0 : decode cX10_partOf 0 = .ok (.iload_n 0, 1) := by decide +kernel
theorem dX10_partOf_1 : decode cX10_partOf 1 = .ok (.bipush 9, 2) := by decide +kernel
theorem dX10_partOf_3 : decode cX10_partOf 3 = .ok (.iconst 3, 1) := by decide +kernel
theorem dX10_partOf_4 : decode cX10_partOf 4 = .ok (.iload_n 1, 1) := by decide +kernel
theorem dX10_partOf_5 : decode cX10_partOf 5 = .ok (.imul, 1) := by decide +kernel
theorem dX10_partOf_6 : decode cX10_partOf 6 = .ok (.isub, 1) := by decide +kernel
theorem dX10_partOf_7 : decode cX10_partOf 7 = .ok (.ishr, 1) := by decide +kernel
theorem dX10_partOf_8 : decode cX10_partOf 8 = .ok (.bipush 7, 2) := by decide +kernel
theorem dX10_partOf_10 : decode cX10_partOf 10 = .ok (.iand, 1) := by decide +kernel
theorem dX10_partOf_11 : decode cX10_partOf 11 = .ok (.ireturn, 1) := by decide +kernel
theorem dX10_switchesBy_0 : decode cX10_switchesBy 0 = .ok (.aload_n 0, 1) := by decide +kernel
theorem dX10_switchesBy_1 : decode cX10_switchesBy 1 = .ok (.iload_n 1, 1) := by decide +kernel
theorem dX10_switchesBy_2 : decode cX10_switchesBy 2 = .ok (.iconst 0, 1) := by decide +kernel
theorem dX10_switchesBy_3 : decode cX10_switchesBy 3 = .ok (.invokestatic 278, 3) := by decide +kernel
theorem dX10_switchesBy_6 : decode cX10_switchesBy 6 = .ok (.iload_n 1, 1) := by decide +kernel
theorem dX10_switchesBy_7 : decode cX10_switchesBy 7 = .ok (.iconst 1, 1) := by decide +kernel
theorem dX10_switchesBy_8 : decode cX10_switchesBy 8 = .ok (.invokestatic 278, 3) := by decide +kernel
theorem dX10_switchesBy_11 : decode cX10_switchesBy 11 = .ok (.iload_n 1, 1) := by decide +kernel
theorem dX10_switchesBy_12 : decode cX10_switchesBy 12 = .ok (.iconst 2, 1) := by decide +kernel
theorem dX10_switchesBy_13 : decode cX10_switchesBy 13 = .ok (.invokestatic 278, 3) := by decide +kernel
theorem dX10_switchesBy_16 : decode cX10_switchesBy 16 = .ok (.iload_n 1, 1) := by decide +kernel
theorem dX10_switchesBy_17 : decode cX10_switchesBy 17 = .ok (.iconst 3, 1) := by decide +kernel
theorem dX10_switchesBy_18 : decode cX10_switchesBy 18 = .ok (.invokestatic 278, 3) := by decide +kernel
theorem dX10_switchesBy_21 : decode cX10_switchesBy 21 = .ok (.invokevirtual 281, 3) := by decide +kernel
theorem dX10_switchesBy_24 : decode cX10_switchesBy 24 = .ok (.return_, 1) := by decide +kernel
theorem dX10_takesBackBy_0 : decode cX10_takesBackBy 0 = .ok (.aload_n 0, 1) := by decide +kernel
theorem dX10_takesBackBy_1 : decode cX10_takesBackBy 1 = .ok (.iload_n 1, 1) := by decide +kernel
theorem dX10_takesBackBy_2 : decode cX10_takesBackBy 2 = .ok (.iconst 0, 1) := by decide +kernel
theorem dX10_takesBackBy_3 : decode cX10_takesBackBy 3 = .ok (.invokestatic 278, 3) := by decide +kernel
theorem dX10_takesBackBy_6 : decode cX10_takesBackBy 6 = .ok (.iload_n 1, 1) := by decide +kernel
theorem dX10_takesBackBy_7 : decode cX10_takesBackBy 7 = .ok (.iconst 1, 1) := by decide +kernel
theorem dX10_takesBackBy_8 : decode cX10_takesBackBy 8 = .ok (.invokestatic 278, 3) := by decide +kernel
theorem dX10_takesBackBy_11 : decode cX10_takesBackBy 11 = .ok (.iload_n 1, 1) := by decide +kernel
theorem dX10_takesBackBy_12 : decode cX10_takesBackBy 12 = .ok (.iconst 2, 1) := by decide +kernel
theorem dX10_takesBackBy_13 : decode cX10_takesBackBy 13 = .ok (.invokestatic 278, 3) := by decide +kernel
theorem dX10_takesBackBy_16 : decode cX10_takesBackBy 16 = .ok (.iload_n 1, 1) := by decide +kernel
theorem dX10_takesBackBy_17 : decode cX10_takesBackBy 17 = .ok (.iconst 3, 1) := by decide +kernel
theorem dX10_takesBackBy_18 : decode cX10_takesBackBy 18 = .ok (.invokestatic 278, 3) := by decide +kernel
theorem dX10_takesBackBy_21 : decode cX10_takesBackBy 21 = .ok (.invokevirtual 284, 3) := by decide +kernel
theorem dX10_takesBackBy_24 : decode cX10_takesBackBy 24 = .ok (.return_, 1) := by decide +kernel
theorem dX10_isFirstOf_0 : decode cX10_isFirstOf 0 = .ok (.iload_n 0, 1) := by decide +kernel
theorem dX10_isFirstOf_1 : decode cX10_isFirstOf 1 = .ok (.iload_n 1, 1) := by decide +kernel
theorem dX10_isFirstOf_2 : decode cX10_isFirstOf 2 = .ok (.iload_n 2, 1) := by decide +kernel
theorem dX10_isFirstOf_3 : decode cX10_isFirstOf 3 = .ok (.iload_n 3, 1) := by decide +kernel
theorem dX10_isFirstOf_4 : decode cX10_isFirstOf 4 = .ok (.invokestatic 287, 3) := by decide +kernel
theorem dX10_isFirstOf_7 : decode cX10_isFirstOf 7 = .ok (.istore 4, 2) := by decide +kernel
theorem dX10_isFirstOf_9 : decode cX10_isFirstOf 9 = .ok (.iload 4, 2) := by decide +kernel
theorem dX10_isFirstOf_11 : decode cX10_isFirstOf 11 = .ok (.iload_n 1, 1) := by decide +kernel
theorem dX10_isFirstOf_12 : decode cX10_isFirstOf 12 = .ok (.iload_n 0, 1) := by decide +kernel
theorem dX10_isFirstOf_13 : decode cX10_isFirstOf 13 = .ok (.iload_n 3, 1) := by decide +kernel
theorem dX10_isFirstOf_14 : decode cX10_isFirstOf 14 = .ok (.iload_n 2, 1) := by decide +kernel
theorem dX10_isFirstOf_15 : decode cX10_isFirstOf 15 = .ok (.invokestatic 287, 3) := by decide +kernel
theorem dX10_isFirstOf_18 : decode cX10_isFirstOf 18 = .ok (.if_icmp .gt 31, 3) := by decide +kernel
theorem dX10_isFirstOf_21 : decode cX10_isFirstOf 21 = .ok (.iload 4, 2) := by decide +kernel
theorem dX10_isFirstOf_23 : decode cX10_isFirstOf 23 = .ok (.iload_n 2, 1) := by decide +kernel
theorem dX10_isFirstOf_24 : decode cX10_isFirstOf 24 = .ok (.iload_n 3, 1) := by decide +kernel
theorem dX10_isFirstOf_25 : decode cX10_isFirstOf 25 = .ok (.iload_n 0, 1) := by decide +kernel
theorem dX10_isFirstOf_26 : decode cX10_isFirstOf 26 = .ok (.iload_n 1, 1) := by decide +kernel
theorem dX10_isFirstOf_27 : decode cX10_isFirstOf 27 = .ok (.invokestatic 287, 3) := by decide +kernel
theorem dX10_isFirstOf_30 : decode cX10_isFirstOf 30 = .ok (.if_icmp .gt 19, 3) := by decide +kernel
theorem dX10_isFirstOf_33 : decode cX10_isFirstOf 33 = .ok (.iload 4, 2) := by decide +kernel
theorem dX10_isFirstOf_35 : decode cX10_isFirstOf 35 = .ok (.iload_n 3, 1) := by decide +kernel
theorem dX10_isFirstOf_36 : decode cX10_isFirstOf 36 = .ok (.iload_n 2, 1) := by decide +kernel
theorem dX10_isFirstOf_37 : decode cX10_isFirstOf 37 = .ok (.iload_n 1, 1) := by decide +kernel
theorem dX10_isFirstOf_38 : decode cX10_isFirstOf 38 = .ok (.iload_n 0, 1) := by decide +kernel
theorem dX10_isFirstOf_39 : decode cX10_isFirstOf 39 = .ok (.invokestatic 287, 3) := by decide +kernel
theorem dX10_isFirstOf_42 : decode cX10_isFirstOf 42 = .ok (.if_icmp .gt 7, 3) := by decide +kernel
theorem dX10_isFirstOf_45 : decode cX10_isFirstOf 45 = .ok (.iconst 1, 1) := by decide +kernel
theorem dX10_isFirstOf_46 : decode cX10_isFirstOf 46 = .ok (.goto 4, 3) := by decide +kernel
theorem dX10_isFirstOf_49 : decode cX10_isFirstOf 49 = .ok (.iconst 0, 1) := by decide +kernel
theorem dX10_isFirstOf_50 : decode cX10_isFirstOf 50 = .ok (.ireturn, 1) := by decide +kernel
theorem dX10_laysList_0 : decode cX10_laysList 0 = .ok (.iconst 0, 1) := by decide +kernel
theorem dX10_laysList_1 : decode cX10_laysList 1 = .ok (.istore_n 2, 1) := by decide +kernel
theorem dX10_laysList_2 : decode cX10_laysList 2 = .ok (.iconst 0, 1) := by decide +kernel
theorem dX10_laysList_3 : decode cX10_laysList 3 = .ok (.istore_n 3, 1) := by decide +kernel
theorem dX10_laysList_4 : decode cX10_laysList 4 = .ok (.iload_n 3, 1) := by decide +kernel
theorem dX10_laysList_5 : decode cX10_laysList 5 = .ok (.sipush 4096, 3) := by decide +kernel
theorem dX10_laysList_8 : decode cX10_laysList 8 = .ok (.if_icmp .ge 77, 3) := by decide +kernel
theorem dX10_laysList_11 : decode cX10_laysList 11 = .ok (.iload_n 3, 1) := by decide +kernel
theorem dX10_laysList_12 : decode cX10_laysList 12 = .ok (.iconst 0, 1) := by decide +kernel
theorem dX10_laysList_13 : decode cX10_laysList 13 = .ok (.invokestatic 278, 3) := by decide +kernel
theorem dX10_laysList_16 : decode cX10_laysList 16 = .ok (.istore 4, 2) := by decide +kernel
theorem dX10_laysList_18 : decode cX10_laysList 18 = .ok (.iload_n 3, 1) := by decide +kernel
theorem dX10_laysList_19 : decode cX10_laysList 19 = .ok (.iconst 1, 1) := by decide +kernel
theorem dX10_laysList_20 : decode cX10_laysList 20 = .ok (.invokestatic 278, 3) := by decide +kernel
theorem dX10_laysList_23 : decode cX10_laysList 23 = .ok (.istore 5, 2) := by decide +kernel
theorem dX10_laysList_25 : decode cX10_laysList 25 = .ok (.iload_n 3, 1) := by decide +kernel
theorem dX10_laysList_26 : decode cX10_laysList 26 = .ok (.iconst 2, 1) := by decide +kernel
theorem dX10_laysList_27 : decode cX10_laysList 27 = .ok (.invokestatic 278, 3) := by decide +kernel
theorem dX10_laysList_30 : decode cX10_laysList 30 = .ok (.istore 6, 2) := by decide +kernel
theorem dX10_laysList_32 : decode cX10_laysList 32 = .ok (.iload_n 3, 1) := by decide +kernel
theorem dX10_laysList_33 : decode cX10_laysList 33 = .ok (.iconst 3, 1) := by decide +kernel
theorem dX10_laysList_34 : decode cX10_laysList 34 = .ok (.invokestatic 278, 3) := by decide +kernel
theorem dX10_laysList_37 : decode cX10_laysList 37 = .ok (.istore 7, 2) := by decide +kernel
theorem dX10_laysList_39 : decode cX10_laysList 39 = .ok (.iload 4, 2) := by decide +kernel
theorem dX10_laysList_41 : decode cX10_laysList 41 = .ok (.iload 5, 2) := by decide +kernel
theorem dX10_laysList_43 : decode cX10_laysList 43 = .ok (.iload 6, 2) := by decide +kernel
theorem dX10_laysList_45 : decode cX10_laysList 45 = .ok (.iload 7, 2) := by decide +kernel
theorem dX10_laysList_47 : decode cX10_laysList 47 = .ok (.invokestatic 291, 3) := by decide +kernel
theorem dX10_laysList_50 : decode cX10_laysList 50 = .ok (.ifCond .eq 29, 3) := by decide +kernel
theorem dX10_laysList_53 : decode cX10_laysList 53 = .ok (.aload_n 0, 1) := by decide +kernel
theorem dX10_laysList_54 : decode cX10_laysList 54 = .ok (.iload_n 1, 1) := by decide +kernel
theorem dX10_laysList_55 : decode cX10_laysList 55 = .ok (.iload 4, 2) := by decide +kernel
theorem dX10_laysList_57 : decode cX10_laysList 57 = .ok (.iload 5, 2) := by decide +kernel
theorem dX10_laysList_59 : decode cX10_laysList 59 = .ok (.iload 6, 2) := by decide +kernel
theorem dX10_laysList_61 : decode cX10_laysList 61 = .ok (.iload 7, 2) := by decide +kernel
theorem dX10_laysList_63 : decode cX10_laysList 63 = .ok (.invokevirtual 294, 3) := by decide +kernel
theorem dX10_laysList_66 : decode cX10_laysList 66 = .ok (.ifCond .ne 13, 3) := by decide +kernel
theorem dX10_laysList_69 : decode cX10_laysList 69 = .ok (.aload_n 0, 1) := by decide +kernel
theorem dX10_laysList_70 : decode cX10_laysList 70 = .ok (.getfield 45, 3) := by decide +kernel
theorem dX10_laysList_73 : decode cX10_laysList 73 = .ok (.iload_n 2, 1) := by decide +kernel
theorem dX10_laysList_74 : decode cX10_laysList 74 = .ok (.iload_n 3, 1) := by decide +kernel
theorem dX10_laysList_75 : decode cX10_laysList 75 = .ok (.iastore, 1) := by decide +kernel
theorem dX10_laysList_76 : decode cX10_laysList 76 = .ok (.iinc 2 1, 3) := by decide +kernel
theorem dX10_laysList_79 : decode cX10_laysList 79 = .ok (.iinc 3 1, 3) := by decide +kernel
theorem dX10_laysList_82 : decode cX10_laysList 82 = .ok (.goto (-78), 3) := by decide +kernel
theorem dX10_laysList_85 : decode cX10_laysList 85 = .ok (.iload_n 2, 1) := by decide +kernel
theorem dX10_laysList_86 : decode cX10_laysList 86 = .ok (.ireturn, 1) := by decide +kernel
theorem dX10_reason_0 : decode cX10_reason 0 = .ok (.aload_n 0, 1) := by decide +kernel
theorem dX10_reason_1 : decode cX10_reason 1 = .ok (.aload_n 0, 1) := by decide +kernel
theorem dX10_reason_2 : decode cX10_reason 2 = .ok (.iload_n 1, 1) := by decide +kernel
theorem dX10_reason_3 : decode cX10_reason 3 = .ok (.iload_n 2, 1) := by decide +kernel
theorem dX10_reason_4 : decode cX10_reason 4 = .ok (.invokevirtual 210, 3) := by decide +kernel
theorem dX10_reason_7 : decode cX10_reason 7 = .ok (.ifCond .eq 17, 3) := by decide +kernel
theorem dX10_reason_10 : decode cX10_reason 10 = .ok (.aload_n 0, 1) := by decide +kernel
theorem dX10_reason_11 : decode cX10_reason 11 = .ok (.iload_n 3, 1) := by decide +kernel
theorem dX10_reason_12 : decode cX10_reason 12 = .ok (.iload 4, 2) := by decide +kernel
theorem dX10_reason_14 : decode cX10_reason 14 = .ok (.invokevirtual 210, 3) := by decide +kernel
theorem dX10_reason_17 : decode cX10_reason 17 = .ok (.ifCond .eq 7, 3) := by decide +kernel
theorem dX10_reason_20 : decode cX10_reason 20 = .ok (.iconst 1, 1) := by decide +kernel
theorem dX10_reason_21 : decode cX10_reason 21 = .ok (.goto 4, 3) := by decide +kernel
theorem dX10_reason_24 : decode cX10_reason 24 = .ok (.iconst 0, 1) := by decide +kernel
theorem dX10_reason_25 : decode cX10_reason 25 = .ok (.invokevirtual 188, 3) := by decide +kernel
theorem dX10_reason_28 : decode cX10_reason 28 = .ok (.ifCond .eq 21, 3) := by decide +kernel
theorem dX10_reason_31 : decode cX10_reason 31 = .ok (.aload_n 0, 1) := by decide +kernel
theorem dX10_reason_32 : decode cX10_reason 32 = .ok (.aload_n 0, 1) := by decide +kernel
theorem dX10_reason_33 : decode cX10_reason 33 = .ok (.getfield 7, 3) := by decide +kernel
theorem dX10_reason_36 : decode cX10_reason 36 = .ok (.iconst 1, 1) := by decide +kernel
theorem dX10_reason_37 : decode cX10_reason 37 = .ok (.iaload, 1) := by decide +kernel
theorem dX10_reason_38 : decode cX10_reason 38 = .ok (.iload_n 1, 1) := by decide +kernel
theorem dX10_reason_39 : decode cX10_reason 39 = .ok (.iload_n 2, 1) := by decide +kernel
