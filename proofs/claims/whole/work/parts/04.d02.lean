theorem dX9_distance_29 : decode cX9_distance 29 = .ok (.iload_n 1, 1) := by decide +kernel
theorem dX9_distance_30 : decode cX9_distance 30 = .ok (.iconst 4, 1) := by decide +kernel
theorem dX9_distance_31 : decode cX9_distance 31 = .ok (.if_icmp .gt 14, 3) := by decide +kernel
theorem dX9_distance_34 : decode cX9_distance 34 = .ok (.aload_n 0, 1) := by decide +kernel
theorem dX9_distance_35 : decode cX9_distance 35 = .ok (.invokevirtual 265, 3) := by decide +kernel
theorem dX9_distance_38 : decode cX9_distance 38 = .ok (.ifCond .eq 7, 3) := by decide +kernel
theorem dX9_distance_41 : decode cX9_distance 41 = .ok (.iconst 2, 1) := by decide +kernel
theorem dX9_distance_42 : decode cX9_distance 42 = .ok (.goto 4, 3) := by decide +kernel
theorem dX9_distance_45 : decode cX9_distance 45 = .ok (.iconst 3, 1) := by decide +kernel
theorem dX9_distance_46 : decode cX9_distance 46 = .ok (.ireturn, 1) := by decide +kernel
theorem dX9_addEdge_0 : decode cX9_addEdge 0 = .ok (.aload_n 0, 1) := by decide +kernel
theorem dX9_addEdge_1 : decode cX9_addEdge 1 = .ok (.iload_n 1, 1) := by decide +kernel
theorem dX9_addEdge_2 : decode cX9_addEdge 2 = .ok (.invokevirtual 134, 3) := by decide +kernel
theorem dX9_addEdge_5 : decode cX9_addEdge 5 = .ok (.aload_n 0, 1) := by decide +kernel
theorem dX9_addEdge_6 : decode cX9_addEdge 6 = .ok (.iload_n 2, 1) := by decide +kernel
theorem dX9_addEdge_7 : decode cX9_addEdge 7 = .ok (.invokevirtual 134, 3) := by decide +kernel
theorem dX9_addEdge_10 : decode cX9_addEdge 10 = .ok (.aload_n 0, 1) := by decide +kernel
theorem dX9_addEdge_11 : decode cX9_addEdge 11 = .ok (.getfield 19, 3) := by decide +kernel
theorem dX9_addEdge_14 : decode cX9_addEdge 14 = .ok (.invokevirtual 118, 3) := by decide +kernel
theorem dX9_addEdge_17 : decode cX9_addEdge 17 = .ok (.bipush 16, 2) := by decide +kernel
theorem dX9_addEdge_19 : decode cX9_addEdge 19 = .ok (.if_icmp .lt 14, 3) := by decide +kernel
theorem dX9_addEdge_22 : decode cX9_addEdge 22 = .ok (.new 268, 3) := by decide +kernel
theorem dX9_addEdge_25 : decode cX9_addEdge 25 = .ok (.dup, 1) := by decide +kernel
theorem dX9_addEdge_26 : decode cX9_addEdge 26 = .ok (.ldc_w 270, 3) := by decide +kernel
theorem dX9_addEdge_29 : decode cX9_addEdge 29 = .ok (.invokespecial 272, 3) := by decide +kernel
theorem dX9_addEdge_32 : decode cX9_addEdge 32 = .ok (.athrow, 1) := by decide +kernel
theorem dX9_addEdge_33 : decode cX9_addEdge 33 = .ok (.aload_n 0, 1) := by decide +kernel
theorem dX9_addEdge_34 : decode cX9_addEdge 34 = .ok (.invokevirtual 273, 3) := by decide +kernel
theorem dX9_addEdge_37 : decode cX9_addEdge 37 = .ok (.aload_n 0, 1) := by decide +kernel
theorem dX9_addEdge_38 : decode cX9_addEdge 38 = .ok (.getfield 19, 3) := by decide +kernel
theorem dX9_addEdge_41 : decode cX9_addEdge 41 = .ok (.iload_n 1, 1) := by decide +kernel
theorem dX9_addEdge_42 : decode cX9_addEdge 42 = .ok (.iload_n 2, 1) := by decide +kernel
theorem dX9_addEdge_43 : decode cX9_addEdge 43 = .ok (.iconst 1, 1) := by decide +kernel
theorem dX9_addEdge_44 : decode cX9_addEdge 44 = .ok (.invokevirtual 276, 3) := by decide +kernel
theorem dX9_addEdge_47 : decode cX9_addEdge 47 = .ok (.aload_n 0, 1) := by decide +kernel
theorem dX9_addEdge_48 : decode cX9_addEdge 48 = .ok (.getfield 19, 3) := by decide +kernel
theorem dX9_addEdge_51 : decode cX9_addEdge 51 = .ok (.iload_n 1, 1) := by decide +kernel
theorem dX9_addEdge_52 : decode cX9_addEdge 52 = .ok (.iload_n 2, 1) := by decide +kernel
theorem dX9_addEdge_53 : decode cX9_addEdge 53 = .ok (.invokevirtual 137, 3) := by decide +kernel
theorem dX9_addEdge_56 : decode cX9_addEdge 56 = .ok (.ireturn, 1) := by decide +kernel
theorem dX9_removeEdge_0 : decode cX9_removeEdge 0 = .ok (.aload_n 0, 1) := by decide +kernel
theorem dX9_removeEdge_1 : decode cX9_removeEdge 1 = .ok (.iload_n 1, 1) := by decide +kernel
theorem dX9_removeEdge_2 : decode cX9_removeEdge 2 = .ok (.invokevirtual 134, 3) := by decide +kernel
theorem dX9_removeEdge_5 : decode cX9_removeEdge 5 = .ok (.aload_n 0, 1) := by decide +kernel
theorem dX9_removeEdge_6 : decode cX9_removeEdge 6 = .ok (.iload_n 2, 1) := by decide +kernel
theorem dX9_removeEdge_7 : decode cX9_removeEdge 7 = .ok (.invokevirtual 134, 3) := by decide +kernel
theorem dX9_removeEdge_10 : decode cX9_removeEdge 10 = .ok (.aload_n 0, 1) := by decide +kernel
theorem dX9_removeEdge_11 : decode cX9_removeEdge 11 = .ok (.iload_n 1, 1) := by decide +kernel
theorem dX9_removeEdge_12 : decode cX9_removeEdge 12 = .ok (.iload_n 2, 1) := by decide +kernel
theorem dX9_removeEdge_13 : decode cX9_removeEdge 13 = .ok (.invokevirtual 170, 3) := by decide +kernel
theorem dX9_removeEdge_16 : decode cX9_removeEdge 16 = .ok (.aload_n 0, 1) := by decide +kernel
theorem dX9_removeEdge_17 : decode cX9_removeEdge 17 = .ok (.invokevirtual 273, 3) := by decide +kernel
theorem dX9_removeEdge_20 : decode cX9_removeEdge 20 = .ok (.aload_n 0, 1) := by decide +kernel
theorem dX9_removeEdge_21 : decode cX9_removeEdge 21 = .ok (.getfield 19, 3) := by decide +kernel
theorem dX9_removeEdge_24 : decode cX9_removeEdge 24 = .ok (.iload_n 1, 1) := by decide +kernel
theorem dX9_removeEdge_25 : decode cX9_removeEdge 25 = .ok (.iload_n 2, 1) := by decide +kernel
theorem dX9_removeEdge_26 : decode cX9_removeEdge 26 = .ok (.iconst (-1), 1) := by decide +kernel
theorem dX9_removeEdge_27 : decode cX9_removeEdge 27 = .ok (.invokevirtual 276, 3) := by decide +kernel
theorem dX9_removeEdge_30 : decode cX9_removeEdge 30 = .ok (.aload_n 0, 1) := by decide +kernel
theorem dX9_removeEdge_31 : decode cX9_removeEdge 31 = .ok (.getfield 19, 3) := by decide +kernel
theorem dX9_removeEdge_34 : decode cX9_removeEdge 34 = .ok (.iload_n 1, 1) := by decide +kernel
theorem dX9_removeEdge_35 : decode cX9_removeEdge 35 = .ok (.iload_n 2, 1) := by decide +kernel
theorem dX9_removeEdge_36 : decode cX9_removeEdge 36 = .ok (.invokevirtual 137, 3) := by decide +kernel
theorem dX9_removeEdge_39 : decode cX9_removeEdge 39 = .ok (.ireturn, 1) := by decide +kernel
theorem dX9_switchEdges_0 : decode cX9_switchEdges 0 = .ok (.aload_n 0, 1) := by decide +kernel
theorem dX9_switchEdges_1 : decode cX9_switchEdges 1 = .ok (.iload_n 1, 1) := by decide +kernel
theorem dX9_switchEdges_2 : decode cX9_switchEdges 2 = .ok (.iload_n 2, 1) := by decide +kernel
theorem dX9_switchEdges_3 : decode cX9_switchEdges 3 = .ok (.iload_n 3, 1) := by decide +kernel
theorem dX9_switchEdges_4 : decode cX9_switchEdges 4 = .ok (.iload 4, 2) := by decide +kernel
theorem dX9_switchEdges_6 : decode cX9_switchEdges 6 = .ok (.invokevirtual 202, 3) := by decide +kernel
theorem dX9_switchEdges_9 : decode cX9_switchEdges 9 = .ok (.aload_n 0, 1) := by decide +kernel
theorem dX9_switchEdges_10 : decode cX9_switchEdges 10 = .ok (.iload_n 1, 1) := by decide +kernel
theorem dX9_switchEdges_11 : decode cX9_switchEdges 11 = .ok (.iload_n 2, 1) := by decide +kernel
theorem dX9_switchEdges_12 : decode cX9_switchEdges 12 = .ok (.iload_n 3, 1) := by decide +kernel
theorem dX9_switchEdges_13 : decode cX9_switchEdges 13 = .ok (.iload 4, 2) := by decide +kernel
theorem dX9_switchEdges_15 : decode cX9_switchEdges 15 = .ok (.invokevirtual 230, 3) := by decide +kernel
theorem dX9_switchEdges_18 : decode cX9_switchEdges 18 = .ok (.aload_n 0, 1) := by decide +kernel
theorem dX9_switchEdges_19 : decode cX9_switchEdges 19 = .ok (.invokevirtual 273, 3) := by decide +kernel
theorem dX9_switchEdges_22 : decode cX9_switchEdges 22 = .ok (.aload_n 0, 1) := by decide +kernel
theorem dX9_switchEdges_23 : decode cX9_switchEdges 23 = .ok (.getfield 19, 3) := by decide +kernel
theorem dX9_switchEdges_26 : decode cX9_switchEdges 26 = .ok (.iload_n 1, 1) := by decide +kernel
theorem dX9_switchEdges_27 : decode cX9_switchEdges 27 = .ok (.iload_n 2, 1) := by decide +kernel
theorem dX9_switchEdges_28 : decode cX9_switchEdges 28 = .ok (.iload_n 3, 1) := by decide +kernel
theorem dX9_switchEdges_29 : decode cX9_switchEdges 29 = .ok (.iload 4, 2) := by decide +kernel
theorem dX9_switchEdges_31 : decode cX9_switchEdges 31 = .ok (.invokestatic 233, 3) := by decide +kernel
theorem dX9_switchEdges_34 : decode cX9_switchEdges 34 = .ok (.invokevirtual 237, 3) := by decide +kernel
theorem dX9_switchEdges_37 : decode cX9_switchEdges 37 = .ok (.aload_n 0, 1) := by decide +kernel
theorem dX9_switchEdges_38 : decode cX9_switchEdges 38 = .ok (.getfield 19, 3) := by decide +kernel
theorem dX9_switchEdges_41 : decode cX9_switchEdges 41 = .ok (.invokevirtual 148, 3) := by decide +kernel
theorem dX9_switchEdges_44 : decode cX9_switchEdges 44 = .ok (.ireturn, 1) := by decide +kernel
theorem dX9_realise_0 : decode cX9_realise 0 = .ok (.aload_n 0, 1) := by decide +kernel
theorem dX9_realise_1 : decode cX9_realise 1 = .ok (.iload_n 1, 1) := by decide +kernel
theorem dX9_realise_2 : decode cX9_realise 2 = .ok (.invokevirtual 196, 3) := by decide +kernel
theorem dX9_realise_5 : decode cX9_realise 5 = .ok (.aload_n 0, 1) := by decide +kernel
theorem dX9_realise_6 : decode cX9_realise 6 = .ok (.getfield 42, 3) := by decide +kernel
theorem dX9_realise_9 : decode cX9_realise 9 = .ok (.aload_n 0, 1) := by decide +kernel
theorem dX9_realise_10 : decode cX9_realise 10 = .ok (.getfield 19, 3) := by decide +kernel
theorem dX9_realise_13 : decode cX9_realise 13 = .ok (.invokevirtual 182, 3) := by decide +kernel
theorem dX9_realise_16 : decode cX9_realise 16 = .ok (.aload_n 0, 1) := by decide +kernel
theorem dX9_realise_17 : decode cX9_realise 17 = .ok (.getfield 42, 3) := by decide +kernel
theorem dX9_realise_20 : decode cX9_realise 20 = .ok (.iload_n 1, 1) := by decide +kernel
theorem dX9_realise_21 : decode cX9_realise 21 = .ok (.invokevirtual 199, 3) := by decide +kernel
theorem dX9_realise_24 : decode cX9_realise 24 = .ok (.ifCond .ne 14, 3) := by decide +kernel
theorem dX9_realise_27 : decode cX9_realise 27 = .ok (.new 268, 3) := by decide +kernel
theorem dX9_realise_30 : decode cX9_realise 30 = .ok (.dup, 1) := by decide +kernel
theorem dX9_realise_31 : decode cX9_realise 31 = .ok (.ldc_w 280, 3) := by decide +kernel
theorem dX9_realise_34 : decode cX9_realise 34 = .ok (.invokespecial 272, 3) := by decide +kernel
theorem dX9_realise_37 : decode cX9_realise 37 = .ok (.athrow, 1) := by decide +kernel
theorem dX9_realise_38 : decode cX9_realise 38 = .ok (.aload_n 0, 1) := by decide +kernel
theorem dX9_realise_39 : decode cX9_realise 39 = .ok (.invokevirtual 273, 3) := by decide +kernel
theorem dX9_realise_42 : decode cX9_realise 42 = .ok (.aload_n 0, 1) := by decide +kernel
theorem dX9_realise_43 : decode cX9_realise 43 = .ok (.getfield 42, 3) := by decide +kernel
theorem dX9_realise_46 : decode cX9_realise 46 = .ok (.aload_n 0, 1) := by decide +kernel
theorem dX9_realise_47 : decode cX9_realise 47 = .ok (.getfield 19, 3) := by decide +kernel
theorem dX9_realise_50 : decode cX9_realise 50 = .ok (.iload_n 1, 1) := by decide +kernel
theorem dX9_realise_51 : decode cX9_realise 51 = .ok (.invokevirtual 282, 3) := by decide +kernel
theorem dX9_realise_54 : decode cX9_realise 54 = .ok (.aload_n 0, 1) := by decide +kernel
theorem dX9_realise_55 : decode cX9_realise 55 = .ok (.getfield 19, 3) := by decide +kernel
theorem dX9_realise_58 : decode cX9_realise 58 = .ok (.invokevirtual 148, 3) := by decide +kernel
theorem dX9_realise_61 : decode cX9_realise 61 = .ok (.ireturn, 1) := by decide +kernel
theorem dX9_follow_0 : decode cX9_follow 0 = .ok (.iload_n 1, 1) := by decide +kernel
theorem dX9_follow_1 : decode cX9_follow 1 = .ok (.ifCond .lt 9, 3) := by decide +kernel
theorem dX9_follow_4 : decode cX9_follow 4 = .ok (.iload_n 1, 1) := by decide +kernel
theorem dX9_follow_5 : decode cX9_follow 5 = .ok (.bipush 16, 2) := by decide +kernel
theorem dX9_follow_7 : decode cX9_follow 7 = .ok (.if_icmp .le 14, 3) := by decide +kernel
theorem dX9_follow_10 : decode cX9_follow 10 = .ok (.new 90, 3) := by decide +kernel
theorem dX9_follow_13 : decode cX9_follow 13 = .ok (.dup, 1) := by decide +kernel
theorem dX9_follow_14 : decode cX9_follow 14 = .ok (.ldc_w 285, 3) := by decide +kernel
theorem dX9_follow_17 : decode cX9_follow 17 = .ok (.invokespecial 94, 3) := by decide +kernel
theorem dX9_follow_20 : decode cX9_follow 20 = .ok (.athrow, 1) := by decide +kernel
theorem dX9_follow_21 : decode cX9_follow 21 = .ok (.aload_n 0, 1) := by decide +kernel
theorem dX9_follow_22 : decode cX9_follow 22 = .ok (.invokevirtual 255, 3) := by decide +kernel
theorem dX9_follow_25 : decode cX9_follow 25 = .ok (.aload_n 0, 1) := by decide +kernel
theorem dX9_follow_26 : decode cX9_follow 26 = .ok (.invokevirtual 273, 3) := by decide +kernel
theorem dX9_follow_29 : decode cX9_follow 29 = .ok (.aload_n 0, 1) := by decide +kernel
theorem dX9_follow_30 : decode cX9_follow 30 = .ok (.getfield 56, 3) := by decide +kernel
theorem dX9_follow_33 : decode cX9_follow 33 = .ok (.aload_n 0, 1) := by decide +kernel
theorem dX9_follow_34 : decode cX9_follow 34 = .ok (.getfield 19, 3) := by decide +kernel
theorem dX9_follow_37 : decode cX9_follow 37 = .ok (.aload_n 0, 1) := by decide +kernel
theorem dX9_follow_38 : decode cX9_follow 38 = .ok (.getfield 23, 3) := by decide +kernel
theorem dX9_follow_41 : decode cX9_follow 41 = .ok (.invokevirtual 258, 3) := by decide +kernel
theorem dX9_follow_44 : decode cX9_follow 44 = .ok (.iconst 0, 1) := by decide +kernel
theorem dX9_follow_45 : decode cX9_follow 45 = .ok (.istore_n 2, 1) := by decide +kernel
theorem dX9_follow_46 : decode cX9_follow 46 = .ok (.iload_n 2, 1) := by decide +kernel
theorem dX9_follow_47 : decode cX9_follow 47 = .ok (.iload_n 1, 1) := by decide +kernel
theorem dX9_follow_48 : decode cX9_follow 48 = .ok (.if_icmp .ge 35, 3) := by decide +kernel
theorem dX9_follow_51 : decode cX9_follow 51 = .ok (.iload_n 2, 1) := by decide +kernel
theorem dX9_follow_52 : decode cX9_follow 52 = .ok (.aload_n 0, 1) := by decide +kernel
theorem dX9_follow_53 : decode cX9_follow 53 = .ok (.getfield 56, 3) := by decide +kernel
theorem dX9_follow_56 : decode cX9_follow 56 = .ok (.invokevirtual 261, 3) := by decide +kernel
theorem dX9_follow_59 : decode cX9_follow 59 = .ok (.if_icmp .ge 24, 3) := by decide +kernel
theorem dX9_follow_62 : decode cX9_follow 62 = .ok (.aload_n 0, 1) := by decide +kernel
theorem dX9_follow_63 : decode cX9_follow 63 = .ok (.getfield 19, 3) := by decide +kernel
theorem dX9_follow_66 : decode cX9_follow 66 = .ok (.aload_n 0, 1) := by decide +kernel
theorem dX9_follow_67 : decode cX9_follow 67 = .ok (.getfield 56, 3) := by decide +kernel
theorem dX9_follow_70 : decode cX9_follow 70 = .ok (.iload_n 2, 1) := by decide +kernel
theorem dX9_follow_71 : decode cX9_follow 71 = .ok (.invokevirtual 264, 3) := by decide +kernel
theorem dX9_follow_74 : decode cX9_follow 74 = .ok (.invokevirtual 237, 3) := by decide +kernel
theorem dX9_follow_77 : decode cX9_follow 77 = .ok (.iinc 2 1, 3) := by decide +kernel
theorem dX9_follow_80 : decode cX9_follow 80 = .ok (.goto (-34), 3) := by decide +kernel
theorem dX9_follow_83 : decode cX9_follow 83 = .ok (.aload_n 0, 1) := by decide +kernel
theorem dX9_follow_84 : decode cX9_follow 84 = .ok (.getfield 19, 3) := by decide +kernel
theorem dX9_follow_87 : decode cX9_follow 87 = .ok (.aload_n 0, 1) := by decide +kernel
theorem dX9_follow_88 : decode cX9_follow 88 = .ok (.getfield 23, 3) := by decide +kernel
theorem dX9_follow_91 : decode cX9_follow 91 = .ok (.invokevirtual 245, 3) := by decide +kernel
theorem dX9_follow_94 : decode cX9_follow 94 = .ok (.ireturn, 1) := by decide +kernel
theorem dX9_connect_0 : decode cX9_connect 0 = .ok (.aload_n 0, 1) := by decide +kernel
theorem dX9_connect_1 : decode cX9_connect 1 = .ok (.invokevirtual 273, 3) := by decide +kernel
theorem dX9_connect_4 : decode cX9_connect 4 = .ok (.iconst 0, 1) := by decide +kernel
theorem dX9_connect_5 : decode cX9_connect 5 = .ok (.istore_n 1, 1) := by decide +kernel
theorem dX9_connect_6 : decode cX9_connect 6 = .ok (.iload_n 1, 1) := by decide +kernel
theorem dX9_connect_7 : decode cX9_connect 7 = .ok (.bipush 8, 2) := by decide +kernel
theorem dX9_connect_9 : decode cX9_connect 9 = .ok (.if_icmp .ge 30, 3) := by decide +kernel
theorem dX9_connect_12 : decode cX9_connect 12 = .ok (.aload_n 0, 1) := by decide +kernel
theorem dX9_connect_13 : decode cX9_connect 13 = .ok (.invokevirtual 287, 3) := by decide +kernel
theorem dX9_connect_16 : decode cX9_connect 16 = .ok (.istore_n 2, 1) := by decide +kernel
theorem dX9_connect_17 : decode cX9_connect 17 = .ok (.iload_n 2, 1) := by decide +kernel
theorem dX9_connect_18 : decode cX9_connect 18 = .ok (.iconst (-1), 1) := by decide +kernel
theorem dX9_connect_19 : decode cX9_connect 19 = .ok (.if_icmp .ne 6, 3) := by decide +kernel
theorem dX9_connect_22 : decode cX9_connect 22 = .ok (.goto 17, 3) := by decide +kernel
theorem dX9_connect_25 : decode cX9_connect 25 = .ok (.aload_n 0, 1) := by decide +kernel
theorem dX9_connect_26 : decode cX9_connect 26 = .ok (.getfield 19, 3) := by decide +kernel
theorem dX9_connect_29 : decode cX9_connect 29 = .ok (.iload_n 2, 1) := by decide +kernel
theorem dX9_connect_30 : decode cX9_connect 30 = .ok (.invokevirtual 237, 3) := by decide +kernel
theorem dX9_connect_33 : decode cX9_connect 33 = .ok (.iinc 1 1, 3) := by decide +kernel
theorem dX9_connect_36 : decode cX9_connect 36 = .ok (.goto (-30), 3) := by decide +kernel
theorem dX9_connect_39 : decode cX9_connect 39 = .ok (.aload_n 0, 1) := by decide +kernel
theorem dX9_connect_40 : decode cX9_connect 40 = .ok (.aload_n 0, 1) := by decide +kernel
theorem dX9_connect_41 : decode cX9_connect 41 = .ok (.getfield 19, 3) := by decide +kernel
theorem dX9_connect_44 : decode cX9_connect 44 = .ok (.invokevirtual 166, 3) := by decide +kernel
theorem dX9_connect_47 : decode cX9_connect 47 = .ok (.ireturn, 1) := by decide +kernel
theorem dX9_simplify_0 : decode cX9_simplify 0 = .ok (.aload_n 0, 1) := by decide +kernel
theorem dX9_simplify_1 : decode cX9_simplify 1 = .ok (.invokevirtual 273, 3) := by decide +kernel
theorem dX9_simplify_4 : decode cX9_simplify 4 = .ok (.iconst 0, 1) := by decide +kernel
theorem dX9_simplify_5 : decode cX9_simplify 5 = .ok (.istore_n 1, 1) := by decide +kernel
theorem dX9_simplify_6 : decode cX9_simplify 6 = .ok (.iload_n 1, 1) := by decide +kernel
theorem dX9_simplify_7 : decode cX9_simplify 7 = .ok (.bipush 16, 2) := by decide +kernel
theorem dX9_simplify_9 : decode cX9_simplify 9 = .ok (.if_icmp .ge 30, 3) := by decide +kernel
theorem dX9_simplify_12 : decode cX9_simplify 12 = .ok (.aload_n 0, 1) := by decide +kernel
theorem dX9_simplify_13 : decode cX9_simplify 13 = .ok (.invokevirtual 290, 3) := by decide +kernel
theorem dX9_simplify_16 : decode cX9_simplify 16 = .ok (.istore_n 2, 1) := by decide +kernel
theorem dX9_simplify_17 : decode cX9_simplify 17 = .ok (.iload_n 2, 1) := by decide +kernel
theorem dX9_simplify_18 : decode cX9_simplify 18 = .ok (.iconst (-1), 1) := by decide +kernel
theorem dX9_simplify_19 : decode cX9_simplify 19 = .ok (.if_icmp .ne 6, 3) := by decide +kernel
theorem dX9_simplify_22 : decode cX9_simplify 22 = .ok (.goto 17, 3) := by decide +kernel
theorem dX9_simplify_25 : decode cX9_simplify 25 = .ok (.aload_n 0, 1) := by decide +kernel
theorem dX9_simplify_26 : decode cX9_simplify 26 = .ok (.getfield 19, 3) := by decide +kernel
theorem dX9_simplify_29 : decode cX9_simplify 29 = .ok (.iload_n 2, 1) := by decide +kernel
theorem dX9_simplify_30 : decode cX9_simplify 30 = .ok (.invokevirtual 237, 3) := by decide +kernel
theorem dX9_simplify_33 : decode cX9_simplify 33 = .ok (.iinc 1 1, 3) := by decide +kernel
theorem dX9_simplify_36 : decode cX9_simplify 36 = .ok (.goto (-30), 3) := by decide +kernel
theorem dX9_simplify_39 : decode cX9_simplify 39 = .ok (.aload_n 0, 1) := by decide +kernel
theorem dX9_simplify_40 : decode cX9_simplify 40 = .ok (.getfield 19, 3) := by decide +kernel
theorem dX9_simplify_43 : decode cX9_simplify 43 = .ok (.invokevirtual 148, 3) := by decide +kernel
theorem dX9_simplify_46 : decode cX9_simplify 46 = .ok (.ireturn, 1) := by decide +kernel
theorem dX9_exchange_0 : decode cX9_exchange 0 = .ok (.aload_n 0, 1) := by decide +kernel
theorem dX9_exchange_1 : decode cX9_exchange 1 = .ok (.invokevirtual 273, 3) := by decide +kernel
theorem dX9_exchange_4 : decode cX9_exchange 4 = .ok (.aload_n 0, 1) := by decide +kernel
theorem dX9_exchange_5 : decode cX9_exchange 5 = .ok (.getfield 29, 3) := by decide +kernel
theorem dX9_exchange_8 : decode cX9_exchange 8 = .ok (.aload_n 0, 1) := by decide +kernel
theorem dX9_exchange_9 : decode cX9_exchange 9 = .ok (.getfield 19, 3) := by decide +kernel
theorem dX9_exchange_12 : decode cX9_exchange 12 = .ok (.invokevirtual 105, 3) := by decide +kernel
theorem dX9_exchange_15 : decode cX9_exchange 15 = .ok (.aload_n 0, 1) := by decide +kernel
theorem dX9_exchange_16 : decode cX9_exchange 16 = .ok (.getfield 19, 3) := by decide +kernel
theorem dX9_exchange_19 : decode cX9_exchange 19 = .ok (.aload_n 0, 1) := by decide +kernel
theorem dX9_exchange_20 : decode cX9_exchange 20 = .ok (.getfield 23, 3) := by decide +kernel
theorem dX9_exchange_23 : decode cX9_exchange 23 = .ok (.invokevirtual 105, 3) := by decide +kernel
theorem dX9_exchange_26 : decode cX9_exchange 26 = .ok (.aload_n 0, 1) := by decide +kernel
theorem dX9_exchange_27 : decode cX9_exchange 27 = .ok (.getfield 23, 3) := by decide +kernel
theorem dX9_exchange_30 : decode cX9_exchange 30 = .ok (.aload_n 0, 1) := by decide +kernel
theorem dX9_exchange_31 : decode cX9_exchange 31 = .ok (.getfield 29, 3) := by decide +kernel
theorem dX9_exchange_34 : decode cX9_exchange 34 = .ok (.invokevirtual 105, 3) := by decide +kernel
theorem dX9_exchange_37 : decode cX9_exchange 37 = .ok (.aload_n 0, 1) := by decide +kernel
theorem dX9_exchange_38 : decode cX9_exchange 38 = .ok (.getfield 19, 3) := by decide +kernel
theorem dX9_exchange_41 : decode cX9_exchange 41 = .ok (.aload_n 0, 1) := by decide +kernel
theorem dX9_exchange_42 : decode cX9_exchange 42 = .ok (.getfield 23, 3) := by decide +kernel
theorem dX9_exchange_45 : decode cX9_exchange 45 = .ok (.invokevirtual 245, 3) := by decide +kernel
theorem dX9_exchange_48 : decode cX9_exchange 48 = .ok (.ireturn, 1) := by decide +kernel
theorem dX9_copyToTarget_0 : decode cX9_copyToTarget 0 = .ok (.aload_n 0, 1) := by decide +kernel
theorem dX9_copyToTarget_1 : decode cX9_copyToTarget 1 = .ok (.getfield 19, 3) := by decide +kernel
theorem dX9_copyToTarget_4 : decode cX9_copyToTarget 4 = .ok (.aload_n 0, 1) := by decide +kernel
theorem dX9_copyToTarget_5 : decode cX9_copyToTarget 5 = .ok (.getfield 23, 3) := by decide +kernel
theorem dX9_copyToTarget_8 : decode cX9_copyToTarget 8 = .ok (.invokevirtual 245, 3) := by decide +kernel
theorem dX9_copyToTarget_11 : decode cX9_copyToTarget 11 = .ok (.istore_n 1, 1) := by decide +kernel
theorem dX9_copyToTarget_12 : decode cX9_copyToTarget 12 = .ok (.aload_n 0, 1) := by decide +kernel
theorem dX9_copyToTarget_13 : decode cX9_copyToTarget 13 = .ok (.invokevirtual 273, 3) := by decide +kernel
theorem dX9_copyToTarget_16 : decode cX9_copyToTarget 16 = .ok (.aload_n 0, 1) := by decide +kernel
theorem dX9_copyToTarget_17 : decode cX9_copyToTarget 17 = .ok (.getfield 23, 3) := by decide +kernel
theorem dX9_copyToTarget_20 : decode cX9_copyToTarget 20 = .ok (.aload_n 0, 1) := by decide +kernel
theorem dX9_copyToTarget_21 : decode cX9_copyToTarget 21 = .ok (.getfield 19, 3) := by decide +kernel
theorem dX9_copyToTarget_24 : decode cX9_copyToTarget 24 = .ok (.invokevirtual 105, 3) := by decide +kernel
theorem dX9_copyToTarget_27 : decode cX9_copyToTarget 27 = .ok (.iload_n 1, 1) := by decide +kernel
theorem dX9_copyToTarget_28 : decode cX9_copyToTarget 28 = .ok (.ireturn, 1) := by decide +kernel
theorem dX9_setMode_0 : decode cX9_setMode 0 = .ok (.aload_n 0, 1) := by decide +kernel
theorem dX9_setMode_1 : decode cX9_setMode 1 = .ok (.iload_n 1, 1) := by decide +kernel
theorem dX9_setMode_2 : decode cX9_setMode 2 = .ok (.invokevirtual 196, 3) := by decide +kernel
theorem dX9_setMode_5 : decode cX9_setMode 5 = .ok (.aload_n 0, 1) := by decide +kernel
theorem dX9_setMode_6 : decode cX9_setMode 6 = .ok (.invokevirtual 273, 3) := by decide +kernel
theorem dX9_setMode_9 : decode cX9_setMode 9 = .ok (.aload_n 0, 1) := by decide +kernel
theorem dX9_setMode_10 : decode cX9_setMode 10 = .ok (.getfield 74, 3) := by decide +kernel
theorem dX9_setMode_13 : decode cX9_setMode 13 = .ok (.istore_n 2, 1) := by decide +kernel
theorem dX9_setMode_14 : decode cX9_setMode 14 = .ok (.aload_n 0, 1) := by decide +kernel
theorem dX9_setMode_15 : decode cX9_setMode 15 = .ok (.iload_n 1, 1) := by decide +kernel
theorem dX9_setMode_16 : decode cX9_setMode 16 = .ok (.putfield 74, 3) := by decide +kernel
theorem dX9_setMode_19 : decode cX9_setMode 19 = .ok (.iload_n 2, 1) := by decide +kernel
theorem dX9_setMode_20 : decode cX9_setMode 20 = .ok (.ireturn, 1) := by decide +kernel
theorem dX9_undo_0 : decode cX9_undo 0 = .ok (.aload_n 0, 1) := by decide +kernel
theorem dX9_undo_1 : decode cX9_undo 1 = .ok (.getfield 63, 3) := by decide +kernel
theorem dX9_undo_4 : decode cX9_undo 4 = .ok (.invokevirtual 293, 3) := by decide +kernel
theorem dX9_undo_7 : decode cX9_undo 7 = .ok (.ifCond .ne 5, 3) := by decide +kernel
theorem dX9_undo_10 : decode cX9_undo 10 = .ok (.iconst (-1), 1) := by decide +kernel
theorem dX9_undo_11 : decode cX9_undo 11 = .ok (.ireturn, 1) := by decide +kernel
theorem dX9_undo_12 : decode cX9_undo 12 = .ok (.aload_n 0, 1) := by decide +kernel
theorem dX9_undo_13 : decode cX9_undo 13 = .ok (.getfield 63, 3) := by decide +kernel
theorem dX9_undo_16 : decode cX9_undo 16 = .ok (.invokevirtual 294, 3) := by decide +kernel
theorem dX9_undo_19 : decode cX9_undo 19 = .ok (.aload_n 0, 1) := by decide +kernel
theorem dX9_undo_20 : decode cX9_undo 20 = .ok (.getfield 19, 3) := by decide +kernel
theorem dX9_undo_23 : decode cX9_undo 23 = .ok (.aload_n 0, 1) := by decide +kernel
theorem dX9_undo_24 : decode cX9_undo 24 = .ok (.getfield 63, 3) := by decide +kernel
theorem dX9_undo_27 : decode cX9_undo 27 = .ok (.invokevirtual 297, 3) := by decide +kernel
theorem dX9_undo_30 : decode cX9_undo 30 = .ok (.invokevirtual 105, 3) := by decide +kernel
theorem dX9_undo_33 : decode cX9_undo 33 = .ok (.aload_n 0, 1) := by decide +kernel
theorem dX9_undo_34 : decode cX9_undo 34 = .ok (.getfield 23, 3) := by decide +kernel
theorem dX9_undo_37 : decode cX9_undo 37 = .ok (.aload_n 0, 1) := by decide +kernel
theorem dX9_undo_38 : decode cX9_undo 38 = .ok (.getfield 63, 3) := by decide +kernel
theorem dX9_undo_41 : decode cX9_undo 41 = .ok (.invokevirtual 300, 3) := by decide +kernel
theorem dX9_undo_44 : decode cX9_undo 44 = .ok (.invokevirtual 105, 3) := by decide +kernel
theorem dX9_undo_47 : decode cX9_undo 47 = .ok (.aload_n 0, 1) := by decide +kernel
theorem dX9_undo_48 : decode cX9_undo 48 = .ok (.aload_n 0, 1) := by decide +kernel
theorem dX9_undo_49 : decode cX9_undo 49 = .ok (.getfield 63, 3) := by decide +kernel
theorem dX9_undo_52 : decode cX9_undo 52 = .ok (.invokevirtual 303, 3) := by decide +kernel
theorem dX9_undo_55 : decode cX9_undo 55 = .ok (.putfield 74, 3) := by decide +kernel
theorem dX9_undo_58 : decode cX9_undo 58 = .ok (.aload_n 0, 1) := by decide +kernel
theorem dX9_undo_59 : decode cX9_undo 59 = .ok (.getfield 63, 3) := by decide +kernel
theorem dX9_undo_62 : decode cX9_undo 62 = .ok (.invokevirtual 293, 3) := by decide +kernel
theorem dX9_undo_65 : decode cX9_undo 65 = .ok (.ireturn, 1) := by decide +kernel
theorem dX9_write_0 : decode cX9_write 0 = .ok (.aload_n 0, 1) := by decide +kernel
theorem dX9_write_1 : decode cX9_write 1 = .ok (.getfield 70, 3) := by decide +kernel
theorem dX9_write_4 : decode cX9_write 4 = .ok (.aload_n 0, 1) := by decide +kernel
theorem dX9_write_5 : decode cX9_write 5 = .ok (.iload_n 1, 1) := by decide +kernel
theorem dX9_write_6 : decode cX9_write 6 = .ok (.invokevirtual 130, 3) := by decide +kernel
theorem dX9_write_9 : decode cX9_write 9 = .ok (.invokevirtual 306, 3) := by decide +kernel
theorem dX9_write_12 : decode cX9_write 12 = .ok (.aload_n 0, 1) := by decide +kernel
theorem dX9_write_13 : decode cX9_write 13 = .ok (.getfield 70, 3) := by decide +kernel
theorem dX9_write_16 : decode cX9_write 16 = .ok (.invokevirtual 309, 3) := by decide +kernel
theorem dX9_write_19 : decode cX9_write 19 = .ok (.ireturn, 1) := by decide +kernel
theorem dX9_written_0 : decode cX9_written 0 = .ok (.iload_n 1, 1) := by decide +kernel
theorem dX9_written_1 : decode cX9_written 1 = .ok (.ifCond .lt 14, 3) := by decide +kernel
theorem dX9_written_4 : decode cX9_written 4 = .ok (.iload_n 1, 1) := by decide +kernel
theorem dX9_written_5 : decode cX9_written 5 = .ok (.aload_n 0, 1) := by decide +kernel
theorem dX9_written_6 : decode cX9_written 6 = .ok (.getfield 70, 3) := by decide +kernel
theorem dX9_written_9 : decode cX9_written 9 = .ok (.invokevirtual 309, 3) := by decide +kernel
theorem dX9_written_12 : decode cX9_written 12 = .ok (.if_icmp .lt 14, 3) := by decide +kernel
theorem dX9_written_15 : decode cX9_written 15 = .ok (.new 188, 3) := by decide +kernel
theorem dX9_written_18 : decode cX9_written 18 = .ok (.dup, 1) := by decide +kernel
theorem dX9_written_19 : decode cX9_written 19 = .ok (.ldc_w 310, 3) := by decide +kernel
theorem dX9_written_22 : decode cX9_written 22 = .ok (.invokespecial 192, 3) := by decide +kernel
theorem dX9_written_25 : decode cX9_written 25 = .ok (.athrow, 1) := by decide +kernel
theorem dX9_written_26 : decode cX9_written 26 = .ok (.aload_n 0, 1) := by decide +kernel
theorem dX9_written_27 : decode cX9_written 27 = .ok (.getfield 70, 3) := by decide +kernel
theorem dX9_written_30 : decode cX9_written 30 = .ok (.iload_n 1, 1) := by decide +kernel
theorem dX9_written_31 : decode cX9_written 31 = .ok (.invokevirtual 312, 3) := by decide +kernel
theorem dX9_written_34 : decode cX9_written 34 = .ok (.ireturn, 1) := by decide +kernel
theorem dX9_checkVertex_0 : decode cX9_checkVertex 0 = .ok (.iload_n 1, 1) := by decide +kernel
theorem dX9_checkVertex_1 : decode cX9_checkVertex 1 = .ok (.ifCond .lt 14, 3) := by decide +kernel
theorem dX9_checkVertex_4 : decode cX9_checkVertex 4 = .ok (.iload_n 1, 1) := by decide +kernel
theorem dX9_checkVertex_5 : decode cX9_checkVertex 5 = .ok (.aload_n 0, 1) := by decide +kernel
theorem dX9_checkVertex_6 : decode cX9_checkVertex 6 = .ok (.getfield 19, 3) := by decide +kernel
theorem dX9_checkVertex_9 : decode cX9_checkVertex 9 = .ok (.invokevirtual 127, 3) := by decide +kernel
theorem dX9_checkVertex_12 : decode cX9_checkVertex 12 = .ok (.if_icmp .lt 14, 3) := by decide +kernel
theorem dX9_checkVertex_15 : decode cX9_checkVertex 15 = .ok (.new 188, 3) := by decide +kernel
theorem dX9_checkVertex_18 : decode cX9_checkVertex 18 = .ok (.dup, 1) := by decide +kernel
theorem dX9_checkVertex_19 : decode cX9_checkVertex 19 = .ok (.ldc_w 316, 3) := by decide +kernel
theorem dX9_checkVertex_22 : decode cX9_checkVertex 22 = .ok (.invokespecial 192, 3) := by decide +kernel
theorem dX9_checkVertex_25 : decode cX9_checkVertex 25 = .ok (.athrow, 1) := by decide +kernel
theorem dX9_checkVertex_26 : decode cX9_checkVertex 26 = .ok (.return_, 1) := by decide +kernel
theorem dX9_checkVertices_0 : decode cX9_checkVertices 0 = .ok (.aload_n 0, 1) := by decide +kernel
theorem dX9_checkVertices_1 : decode cX9_checkVertices 1 = .ok (.iload_n 1, 1) := by decide +kernel
theorem dX9_checkVertices_2 : decode cX9_checkVertices 2 = .ok (.invokevirtual 134, 3) := by decide +kernel
theorem dX9_checkVertices_5 : decode cX9_checkVertices 5 = .ok (.aload_n 0, 1) := by decide +kernel
theorem dX9_checkVertices_6 : decode cX9_checkVertices 6 = .ok (.iload_n 2, 1) := by decide +kernel
theorem dX9_checkVertices_7 : decode cX9_checkVertices 7 = .ok (.invokevirtual 134, 3) := by decide +kernel
theorem dX9_checkVertices_10 : decode cX9_checkVertices 10 = .ok (.aload_n 0, 1) := by decide +kernel
theorem dX9_checkVertices_11 : decode cX9_checkVertices 11 = .ok (.iload_n 3, 1) := by decide +kernel
theorem dX9_checkVertices_12 : decode cX9_checkVertices 12 = .ok (.invokevirtual 134, 3) := by decide +kernel
theorem dX9_checkVertices_15 : decode cX9_checkVertices 15 = .ok (.aload_n 0, 1) := by decide +kernel
theorem dX9_checkVertices_16 : decode cX9_checkVertices 16 = .ok (.iload 4, 2) := by decide +kernel
theorem dX9_checkVertices_18 : decode cX9_checkVertices 18 = .ok (.invokevirtual 134, 3) := by decide +kernel
theorem dX9_checkVertices_21 : decode cX9_checkVertices 21 = .ok (.return_, 1) := by decide +kernel
theorem dX9_checkEdge_0 : decode cX9_checkEdge 0 = .ok (.aload_n 0, 1) := by decide +kernel
theorem dX9_checkEdge_1 : decode cX9_checkEdge 1 = .ok (.getfield 19, 3) := by decide +kernel
theorem dX9_checkEdge_4 : decode cX9_checkEdge 4 = .ok (.iload_n 1, 1) := by decide +kernel
theorem dX9_checkEdge_5 : decode cX9_checkEdge 5 = .ok (.iload_n 2, 1) := by decide +kernel
theorem dX9_checkEdge_6 : decode cX9_checkEdge 6 = .ok (.invokevirtual 137, 3) := by decide +kernel
theorem dX9_checkEdge_9 : decode cX9_checkEdge 9 = .ok (.ifCond .ne 14, 3) := by decide +kernel
theorem dX9_checkEdge_12 : decode cX9_checkEdge 12 = .ok (.new 240, 3) := by decide +kernel
theorem dX9_checkEdge_15 : decode cX9_checkEdge 15 = .ok (.dup, 1) := by decide +kernel
theorem dX9_checkEdge_16 : decode cX9_checkEdge 16 = .ok (.ldc_w 318, 3) := by decide +kernel
theorem dX9_checkEdge_19 : decode cX9_checkEdge 19 = .ok (.invokespecial 244, 3) := by decide +kernel
theorem dX9_checkEdge_22 : decode cX9_checkEdge 22 = .ok (.athrow, 1) := by decide +kernel
theorem dX9_checkEdge_23 : decode cX9_checkEdge 23 = .ok (.return_, 1) := by decide +kernel
theorem dX9_checkMode_0 : decode cX9_checkMode 0 = .ok (.iload_n 1, 1) := by decide +kernel
theorem dX9_checkMode_1 : decode cX9_checkMode 1 = .ok (.ifCond .lt 8, 3) := by decide +kernel
theorem dX9_checkMode_4 : decode cX9_checkMode 4 = .ok (.iload_n 1, 1) := by decide +kernel
theorem dX9_checkMode_5 : decode cX9_checkMode 5 = .ok (.iconst 2, 1) := by decide +kernel
theorem dX9_checkMode_6 : decode cX9_checkMode 6 = .ok (.if_icmp .le 14, 3) := by decide +kernel
theorem dX9_checkMode_9 : decode cX9_checkMode 9 = .ok (.new 90, 3) := by decide +kernel
theorem dX9_checkMode_12 : decode cX9_checkMode 12 = .ok (.dup, 1) := by decide +kernel
theorem dX9_checkMode_13 : decode cX9_checkMode 13 = .ok (.ldc_w 320, 3) := by decide +kernel
theorem dX9_checkMode_16 : decode cX9_checkMode 16 = .ok (.invokespecial 94, 3) := by decide +kernel
theorem dX9_checkMode_19 : decode cX9_checkMode 19 = .ok (.athrow, 1) := by decide +kernel
theorem dX9_checkMode_20 : decode cX9_checkMode 20 = .ok (.return_, 1) := by decide +kernel
theorem dX9_checkWhat_0 : decode cX9_checkWhat 0 = .ok (.iload_n 1, 1) := by decide +kernel
theorem dX9_checkWhat_1 : decode cX9_checkWhat 1 = .ok (.ifCond .lt 8, 3) := by decide +kernel
theorem dX9_checkWhat_4 : decode cX9_checkWhat 4 = .ok (.iload_n 1, 1) := by decide +kernel
theorem dX9_checkWhat_5 : decode cX9_checkWhat 5 = .ok (.iconst 3, 1) := by decide +kernel
theorem dX9_checkWhat_6 : decode cX9_checkWhat 6 = .ok (.if_icmp .le 14, 3) := by decide +kernel
theorem dX9_checkWhat_9 : decode cX9_checkWhat 9 = .ok (.new 90, 3) := by decide +kernel
theorem dX9_checkWhat_12 : decode cX9_checkWhat 12 = .ok (.dup, 1) := by decide +kernel
theorem dX9_checkWhat_13 : decode cX9_checkWhat 13 = .ok (.ldc_w 322, 3) := by decide +kernel
theorem dX9_checkWhat_16 : decode cX9_checkWhat 16 = .ok (.invokespecial 94, 3) := by decide +kernel
theorem dX9_checkWhat_19 : decode cX9_checkWhat 19 = .ok (.athrow, 1) := by decide +kernel
theorem dX9_checkWhat_20 : decode cX9_checkWhat 20 = .ok (.return_, 1) := by decide +kernel
theorem dX9_checkPossible_0 : decode cX9_checkPossible 0 = .ok (.aload_n 0, 1) := by decide +kernel
theorem dX9_checkPossible_1 : decode cX9_checkPossible 1 = .ok (.getfield 19, 3) := by decide +kernel
theorem dX9_checkPossible_4 : decode cX9_checkPossible 4 = .ok (.aload_n 0, 1) := by decide +kernel
theorem dX9_checkPossible_5 : decode cX9_checkPossible 5 = .ok (.getfield 74, 3) := by decide +kernel
theorem dX9_checkPossible_8 : decode cX9_checkPossible 8 = .ok (.iload_n 1, 1) := by decide +kernel
theorem dX9_checkPossible_9 : decode cX9_checkPossible 9 = .ok (.iload_n 2, 1) := by decide +kernel
theorem dX9_checkPossible_10 : decode cX9_checkPossible 10 = .ok (.iload_n 3, 1) := by decide +kernel
theorem dX9_checkPossible_11 : decode cX9_checkPossible 11 = .ok (.iload 4, 2) := by decide +kernel
theorem dX9_checkPossible_13 : decode cX9_checkPossible 13 = .ok (.invokevirtual 206, 3) := by decide +kernel
theorem dX9_checkPossible_16 : decode cX9_checkPossible 16 = .ok (.ifCond .eq 14, 3) := by decide +kernel
theorem dX9_checkPossible_19 : decode cX9_checkPossible 19 = .ok (.new 268, 3) := by decide +kernel
theorem dX9_checkPossible_22 : decode cX9_checkPossible 22 = .ok (.dup, 1) := by decide +kernel
theorem dX9_checkPossible_23 : decode cX9_checkPossible 23 = .ok (.ldc_w 324, 3) := by decide +kernel
theorem dX9_checkPossible_26 : decode cX9_checkPossible 26 = .ok (.invokespecial 272, 3) := by decide +kernel
theorem dX9_checkPossible_29 : decode cX9_checkPossible 29 = .ok (.athrow, 1) := by decide +kernel
theorem dX9_checkPossible_30 : decode cX9_checkPossible 30 = .ok (.return_, 1) := by decide +kernel
theorem dX9_checkAlike_0 : decode cX9_checkAlike 0 = .ok (.aload_n 0, 1) := by decide +kernel
theorem dX9_checkAlike_1 : decode cX9_checkAlike 1 = .ok (.getfield 19, 3) := by decide +kernel
theorem dX9_checkAlike_4 : decode cX9_checkAlike 4 = .ok (.aload_n 0, 1) := by decide +kernel
theorem dX9_checkAlike_5 : decode cX9_checkAlike 5 = .ok (.getfield 23, 3) := by decide +kernel
theorem dX9_checkAlike_8 : decode cX9_checkAlike 8 = .ok (.invokevirtual 251, 3) := by decide +kernel
theorem dX9_checkAlike_11 : decode cX9_checkAlike 11 = .ok (.ifCond .ne 14, 3) := by decide +kernel
theorem dX9_checkAlike_14 : decode cX9_checkAlike 14 = .ok (.new 268, 3) := by decide +kernel
theorem dX9_checkAlike_17 : decode cX9_checkAlike 17 = .ok (.dup, 1) := by decide +kernel
theorem dX9_checkAlike_18 : decode cX9_checkAlike 18 = .ok (.ldc_w 326, 3) := by decide +kernel
theorem dX9_checkAlike_21 : decode cX9_checkAlike 21 = .ok (.invokespecial 272, 3) := by decide +kernel
theorem dX9_checkAlike_24 : decode cX9_checkAlike 24 = .ok (.athrow, 1) := by decide +kernel
theorem dX9_checkAlike_25 : decode cX9_checkAlike 25 = .ok (.return_, 1) := by decide +kernel
theorem dX9_choose_0 : decode cX9_choose 0 = .ok (.iload_n 1, 1) := by decide +kernel
theorem dX9_choose_1 : decode cX9_choose 1 = .ok (.ifCond .eq 10, 3) := by decide +kernel
theorem dX9_choose_4 : decode cX9_choose 4 = .ok (.aload_n 0, 1) := by decide +kernel
theorem dX9_choose_5 : decode cX9_choose 5 = .ok (.getfield 23, 3) := by decide +kernel
theorem dX9_choose_8 : decode cX9_choose 8 = .ok (.goto 7, 3) := by decide +kernel
theorem dX9_choose_11 : decode cX9_choose 11 = .ok (.aload_n 0, 1) := by decide +kernel
theorem dX9_choose_12 : decode cX9_choose 12 = .ok (.getfield 19, 3) := by decide +kernel
theorem dX9_choose_15 : decode cX9_choose 15 = .ok (.areturn, 1) := by decide +kernel
theorem dX9_remember_0 : decode cX9_remember 0 = .ok (.aload_n 0, 1) := by decide +kernel
theorem dX9_remember_1 : decode cX9_remember 1 = .ok (.getfield 63, 3) := by decide +kernel
theorem dX9_remember_4 : decode cX9_remember 4 = .ok (.aload_n 0, 1) := by decide +kernel
theorem dX9_remember_5 : decode cX9_remember 5 = .ok (.getfield 19, 3) := by decide +kernel
theorem dX9_remember_8 : decode cX9_remember 8 = .ok (.aload_n 0, 1) := by decide +kernel
theorem dX9_remember_9 : decode cX9_remember 9 = .ok (.getfield 23, 3) := by decide +kernel
theorem dX9_remember_12 : decode cX9_remember 12 = .ok (.aload_n 0, 1) := by decide +kernel
theorem dX9_remember_13 : decode cX9_remember 13 = .ok (.getfield 74, 3) := by decide +kernel
theorem dX9_remember_16 : decode cX9_remember 16 = .ok (.invokevirtual 328, 3) := by decide +kernel
theorem dX9_remember_19 : decode cX9_remember 19 = .ok (.return_, 1) := by decide +kernel
theorem dX9_partsWithEdges_0 : decode cX9_partsWithEdges 0 = .ok (.aload_n 0, 1) := by decide +kernel
theorem dX9_partsWithEdges_1 : decode cX9_partsWithEdges 1 = .ok (.getfield 35, 3) := by decide +kernel
theorem dX9_partsWithEdges_4 : decode cX9_partsWithEdges 4 = .ok (.aload_n 1, 1) := by decide +kernel
theorem dX9_partsWithEdges_5 : decode cX9_partsWithEdges 5 = .ok (.invokevirtual 157, 3) := by decide +kernel
theorem dX9_partsWithEdges_8 : decode cX9_partsWithEdges 8 = .ok (.aload_n 0, 1) := by decide +kernel
theorem dX9_partsWithEdges_9 : decode cX9_partsWithEdges 9 = .ok (.getfield 35, 3) := by decide +kernel
theorem dX9_partsWithEdges_12 : decode cX9_partsWithEdges 12 = .ok (.aload_n 1, 1) := by decide +kernel
theorem dX9_partsWithEdges_13 : decode cX9_partsWithEdges 13 = .ok (.invokevirtual 331, 3) := by decide +kernel
theorem dX9_partsWithEdges_16 : decode cX9_partsWithEdges 16 = .ok (.ireturn, 1) := by decide +kernel
theorem dX9_separates_0 : decode cX9_separates 0 = .ok (.aload_n 0, 1) := by decide +kernel
theorem dX9_separates_1 : decode cX9_separates 1 = .ok (.getfield 26, 3) := by decide +kernel
theorem dX9_separates_4 : decode cX9_separates 4 = .ok (.aload_n 0, 1) := by decide +kernel
theorem dX9_separates_5 : decode cX9_separates 5 = .ok (.getfield 19, 3) := by decide +kernel
theorem dX9_separates_8 : decode cX9_separates 8 = .ok (.invokevirtual 105, 3) := by decide +kernel
theorem dX9_separates_11 : decode cX9_separates 11 = .ok (.aload_n 0, 1) := by decide +kernel
theorem dX9_separates_12 : decode cX9_separates 12 = .ok (.getfield 26, 3) := by decide +kernel
theorem dX9_separates_15 : decode cX9_separates 15 = .ok (.iload_n 1, 1) := by decide +kernel
theorem dX9_separates_16 : decode cX9_separates 16 = .ok (.iload_n 2, 1) := by decide +kernel
theorem dX9_separates_17 : decode cX9_separates 17 = .ok (.iconst (-1), 1) := by decide +kernel
theorem dX9_separates_18 : decode cX9_separates 18 = .ok (.invokevirtual 276, 3) := by decide +kernel
theorem dX9_separates_21 : decode cX9_separates 21 = .ok (.aload_n 0, 1) := by decide +kernel
theorem dX9_separates_22 : decode cX9_separates 22 = .ok (.getfield 35, 3) := by decide +kernel
theorem dX9_separates_25 : decode cX9_separates 25 = .ok (.aload_n 0, 1) := by decide +kernel
theorem dX9_separates_26 : decode cX9_separates 26 = .ok (.getfield 26, 3) := by decide +kernel
theorem dX9_separates_29 : decode cX9_separates 29 = .ok (.invokevirtual 157, 3) := by decide +kernel
theorem dX9_separates_32 : decode cX9_separates 32 = .ok (.aload_n 0, 1) := by decide +kernel
theorem dX9_separates_33 : decode cX9_separates 33 = .ok (.getfield 35, 3) := by decide +kernel
theorem dX9_separates_36 : decode cX9_separates 36 = .ok (.iload_n 1, 1) := by decide +kernel
theorem dX9_separates_37 : decode cX9_separates 37 = .ok (.iload_n 2, 1) := by decide +kernel
theorem dX9_separates_38 : decode cX9_separates 38 = .ok (.invokevirtual 334, 3) := by decide +kernel
theorem dX9_separates_41 : decode cX9_separates 41 = .ok (.ifCond .ne 7, 3) := by decide +kernel
theorem dX9_separates_44 : decode cX9_separates 44 = .ok (.iconst 1, 1) := by decide +kernel
theorem dX9_separates_45 : decode cX9_separates 45 = .ok (.goto 4, 3) := by decide +kernel
theorem dX9_separates_48 : decode cX9_separates 48 = .ok (.iconst 0, 1) := by decide +kernel
theorem dX9_separates_49 : decode cX9_separates 49 = .ok (.ireturn, 1) := by decide +kernel
theorem dX9_oneSwitchLeadsBeside_0 : decode cX9_oneSwitchLeadsBeside 0 = .ok (.aload_n 0, 1) := by decide +kernel
theorem dX9_oneSwitchLeadsBeside_1 : decode cX9_oneSwitchLeadsBeside 1 = .ok (.getfield 49, 3) := by decide +kernel
theorem dX9_oneSwitchLeadsBeside_4 : decode cX9_oneSwitchLeadsBeside 4 = .ok (.aload_n 0, 1) := by decide +kernel
theorem dX9_oneSwitchLeadsBeside_5 : decode cX9_oneSwitchLeadsBeside 5 = .ok (.getfield 19, 3) := by decide +kernel
theorem dX9_oneSwitchLeadsBeside_8 : decode cX9_oneSwitchLeadsBeside 8 = .ok (.iconst 0, 1) := by decide +kernel
theorem dX9_oneSwitchLeadsBeside_9 : decode cX9_oneSwitchLeadsBeside 9 = .ok (.invokevirtual 210, 3) := by decide +kernel
theorem dX9_oneSwitchLeadsBeside_12 : decode cX9_oneSwitchLeadsBeside 12 = .ok (.aload_n 0, 1) := by decide +kernel
theorem dX9_oneSwitchLeadsBeside_13 : decode cX9_oneSwitchLeadsBeside 13 = .ok (.getfield 26, 3) := by decide +kernel
theorem dX9_oneSwitchLeadsBeside_16 : decode cX9_oneSwitchLeadsBeside 16 = .ok (.aload_n 0, 1) := by decide +kernel
theorem dX9_oneSwitchLeadsBeside_17 : decode cX9_oneSwitchLeadsBeside 17 = .ok (.getfield 19, 3) := by decide +kernel
theorem dX9_oneSwitchLeadsBeside_20 : decode cX9_oneSwitchLeadsBeside 20 = .ok (.invokevirtual 105, 3) := by decide +kernel
theorem dX9_oneSwitchLeadsBeside_23 : decode cX9_oneSwitchLeadsBeside 23 = .ok (.iconst 0, 1) := by decide +kernel
theorem dX9_oneSwitchLeadsBeside_24 : decode cX9_oneSwitchLeadsBeside 24 = .ok (.istore_n 1, 1) := by decide +kernel
theorem dX9_oneSwitchLeadsBeside_25 : decode cX9_oneSwitchLeadsBeside 25 = .ok (.iload_n 1, 1) := by decide +kernel
theorem dX9_oneSwitchLeadsBeside_26 : decode cX9_oneSwitchLeadsBeside 26 = .ok (.aload_n 0, 1) := by decide +kernel
theorem dX9_oneSwitchLeadsBeside_27 : decode cX9_oneSwitchLeadsBeside 27 = .ok (.getfield 49, 3) := by decide +kernel
theorem dX9_oneSwitchLeadsBeside_30 : decode cX9_oneSwitchLeadsBeside 30 = .ok (.invokevirtual 214, 3) := by decide +kernel
theorem dX9_oneSwitchLeadsBeside_33 : decode cX9_oneSwitchLeadsBeside 33 = .ok (.if_icmp .ge 61, 3) := by decide +kernel
theorem dX9_oneSwitchLeadsBeside_36 : decode cX9_oneSwitchLeadsBeside 36 = .ok (.aload_n 0, 1) := by decide +kernel
theorem dX9_oneSwitchLeadsBeside_37 : decode cX9_oneSwitchLeadsBeside 37 = .ok (.getfield 26, 3) := by decide +kernel
theorem dX9_oneSwitchLeadsBeside_40 : decode cX9_oneSwitchLeadsBeside 40 = .ok (.aload_n 0, 1) := by decide +kernel
theorem dX9_oneSwitchLeadsBeside_41 : decode cX9_oneSwitchLeadsBeside 41 = .ok (.getfield 49, 3) := by decide +kernel
theorem dX9_oneSwitchLeadsBeside_44 : decode cX9_oneSwitchLeadsBeside 44 = .ok (.iload_n 1, 1) := by decide +kernel
theorem dX9_oneSwitchLeadsBeside_45 : decode cX9_oneSwitchLeadsBeside 45 = .ok (.invokevirtual 222, 3) := by decide +kernel
theorem dX9_oneSwitchLeadsBeside_48 : decode cX9_oneSwitchLeadsBeside 48 = .ok (.invokevirtual 237, 3) := by decide +kernel
theorem dX9_oneSwitchLeadsBeside_51 : decode cX9_oneSwitchLeadsBeside 51 = .ok (.aload_n 0, 1) := by decide +kernel
theorem dX9_oneSwitchLeadsBeside_52 : decode cX9_oneSwitchLeadsBeside 52 = .ok (.getfield 26, 3) := by decide +kernel
theorem dX9_oneSwitchLeadsBeside_55 : decode cX9_oneSwitchLeadsBeside 55 = .ok (.aload_n 0, 1) := by decide +kernel
theorem dX9_oneSwitchLeadsBeside_56 : decode cX9_oneSwitchLeadsBeside 56 = .ok (.getfield 23, 3) := by decide +kernel
theorem dX9_oneSwitchLeadsBeside_59 : decode cX9_oneSwitchLeadsBeside 59 = .ok (.invokevirtual 245, 3) := by decide +kernel
theorem dX9_oneSwitchLeadsBeside_62 : decode cX9_oneSwitchLeadsBeside 62 = .ok (.istore_n 2, 1) := by decide +kernel
theorem dX9_oneSwitchLeadsBeside_63 : decode cX9_oneSwitchLeadsBeside 63 = .ok (.aload_n 0, 1) := by decide +kernel
theorem dX9_oneSwitchLeadsBeside_64 : decode cX9_oneSwitchLeadsBeside 64 = .ok (.getfield 26, 3) := by decide +kernel
theorem dX9_oneSwitchLeadsBeside_67 : decode cX9_oneSwitchLeadsBeside 67 = .ok (.aload_n 0, 1) := by decide +kernel
theorem dX9_oneSwitchLeadsBeside_68 : decode cX9_oneSwitchLeadsBeside 68 = .ok (.getfield 49, 3) := by decide +kernel
theorem dX9_oneSwitchLeadsBeside_71 : decode cX9_oneSwitchLeadsBeside 71 = .ok (.iload_n 1, 1) := by decide +kernel
theorem dX9_oneSwitchLeadsBeside_72 : decode cX9_oneSwitchLeadsBeside 72 = .ok (.invokevirtual 222, 3) := by decide +kernel
theorem dX9_oneSwitchLeadsBeside_75 : decode cX9_oneSwitchLeadsBeside 75 = .ok (.invokestatic 248, 3) := by decide +kernel
theorem dX9_oneSwitchLeadsBeside_78 : decode cX9_oneSwitchLeadsBeside 78 = .ok (.invokevirtual 237, 3) := by decide +kernel
theorem dX9_oneSwitchLeadsBeside_81 : decode cX9_oneSwitchLeadsBeside 81 = .ok (.iload_n 2, 1) := by decide +kernel
theorem dX9_oneSwitchLeadsBeside_82 : decode cX9_oneSwitchLeadsBeside 82 = .ok (.iconst 2, 1) := by decide +kernel
theorem dX9_oneSwitchLeadsBeside_83 : decode cX9_oneSwitchLeadsBeside 83 = .ok (.if_icmp .ne 5, 3) := by decide +kernel
theorem dX9_oneSwitchLeadsBeside_86 : decode cX9_oneSwitchLeadsBeside 86 = .ok (.iconst 1, 1) := by decide +kernel
theorem dX9_oneSwitchLeadsBeside_87 : decode cX9_oneSwitchLeadsBeside 87 = .ok (.ireturn, 1) := by decide +kernel
theorem dX9_oneSwitchLeadsBeside_88 : decode cX9_oneSwitchLeadsBeside 88 = .ok (.iinc 1 1, 3) := by decide +kernel
theorem dX9_oneSwitchLeadsBeside_91 : decode cX9_oneSwitchLeadsBeside 91 = .ok (.goto (-66), 3) := by decide +kernel
theorem dX9_oneSwitchLeadsBeside_94 : decode cX9_oneSwitchLeadsBeside 94 = .ok (.iconst 0, 1) := by decide +kernel
theorem dX9_oneSwitchLeadsBeside_95 : decode cX9_oneSwitchLeadsBeside 95 = .ok (.ireturn, 1) := by decide +kernel
theorem dX9_firstConnecting_0 : decode cX9_firstConnecting 0 = .ok (.aload_n 0, 1) := by decide +kernel
theorem dX9_firstConnecting_1 : decode cX9_firstConnecting 1 = .ok (.aload_n 0, 1) := by decide +kernel
theorem dX9_firstConnecting_2 : decode cX9_firstConnecting 2 = .ok (.getfield 19, 3) := by decide +kernel
theorem dX9_firstConnecting_5 : decode cX9_firstConnecting 5 = .ok (.invokevirtual 166, 3) := by decide +kernel
theorem dX9_firstConnecting_8 : decode cX9_firstConnecting 8 = .ok (.istore_n 1, 1) := by decide +kernel
theorem dX9_firstConnecting_9 : decode cX9_firstConnecting 9 = .ok (.aload_n 0, 1) := by decide +kernel
theorem dX9_firstConnecting_10 : decode cX9_firstConnecting 10 = .ok (.getfield 49, 3) := by decide +kernel
theorem dX9_firstConnecting_13 : decode cX9_firstConnecting 13 = .ok (.aload_n 0, 1) := by decide +kernel
theorem dX9_firstConnecting_14 : decode cX9_firstConnecting 14 = .ok (.getfield 19, 3) := by decide +kernel
theorem dX9_firstConnecting_17 : decode cX9_firstConnecting 17 = .ok (.aload_n 0, 1) := by decide +kernel
theorem dX9_firstConnecting_18 : decode cX9_firstConnecting 18 = .ok (.getfield 74, 3) := by decide +kernel
theorem dX9_firstConnecting_21 : decode cX9_firstConnecting 21 = .ok (.invokevirtual 210, 3) := by decide +kernel
theorem dX9_firstConnecting_24 : decode cX9_firstConnecting 24 = .ok (.aload_n 0, 1) := by decide +kernel
theorem dX9_firstConnecting_25 : decode cX9_firstConnecting 25 = .ok (.getfield 26, 3) := by decide +kernel
theorem dX9_firstConnecting_28 : decode cX9_firstConnecting 28 = .ok (.aload_n 0, 1) := by decide +kernel
theorem dX9_firstConnecting_29 : decode cX9_firstConnecting 29 = .ok (.getfield 19, 3) := by decide +kernel
theorem dX9_firstConnecting_32 : decode cX9_firstConnecting 32 = .ok (.invokevirtual 105, 3) := by decide +kernel
theorem dX9_firstConnecting_35 : decode cX9_firstConnecting 35 = .ok (.iconst 0, 1) := by decide +kernel
theorem dX9_firstConnecting_36 : decode cX9_firstConnecting 36 = .ok (.istore_n 2, 1) := by decide +kernel
theorem dX9_firstConnecting_37 : decode cX9_firstConnecting 37 = .ok (.iload_n 2, 1) := by decide +kernel
theorem dX9_firstConnecting_38 : decode cX9_firstConnecting 38 = .ok (.aload_n 0, 1) := by decide +kernel
theorem dX9_firstConnecting_39 : decode cX9_firstConnecting 39 = .ok (.getfield 49, 3) := by decide +kernel
theorem dX9_firstConnecting_42 : decode cX9_firstConnecting 42 = .ok (.invokevirtual 214, 3) := by decide +kernel
theorem dX9_firstConnecting_45 : decode cX9_firstConnecting 45 = .ok (.if_icmp .ge 65, 3) := by decide +kernel
theorem dX9_firstConnecting_48 : decode cX9_firstConnecting 48 = .ok (.aload_n 0, 1) := by decide +kernel
theorem dX9_firstConnecting_49 : decode cX9_firstConnecting 49 = .ok (.getfield 26, 3) := by decide +kernel
theorem dX9_firstConnecting_52 : decode cX9_firstConnecting 52 = .ok (.aload_n 0, 1) := by decide +kernel
theorem dX9_firstConnecting_53 : decode cX9_firstConnecting 53 = .ok (.getfield 49, 3) := by decide +kernel
theorem dX9_firstConnecting_56 : decode cX9_firstConnecting 56 = .ok (.iload_n 2, 1) := by decide +kernel
theorem dX9_firstConnecting_57 : decode cX9_firstConnecting 57 = .ok (.invokevirtual 222, 3) := by decide +kernel
theorem dX9_firstConnecting_60 : decode cX9_firstConnecting 60 = .ok (.invokevirtual 237, 3) := by decide +kernel
theorem dX9_firstConnecting_63 : decode cX9_firstConnecting 63 = .ok (.aload_n 0, 1) := by decide +kernel
theorem dX9_firstConnecting_64 : decode cX9_firstConnecting 64 = .ok (.aload_n 0, 1) := by decide +kernel
theorem dX9_firstConnecting_65 : decode cX9_firstConnecting 65 = .ok (.getfield 26, 3) := by decide +kernel
theorem dX9_firstConnecting_68 : decode cX9_firstConnecting 68 = .ok (.invokevirtual 166, 3) := by decide +kernel
theorem dX9_firstConnecting_71 : decode cX9_firstConnecting 71 = .ok (.istore_n 3, 1) := by decide +kernel
theorem dX9_firstConnecting_72 : decode cX9_firstConnecting 72 = .ok (.aload_n 0, 1) := by decide +kernel
theorem dX9_firstConnecting_73 : decode cX9_firstConnecting 73 = .ok (.getfield 26, 3) := by decide +kernel
theorem dX9_firstConnecting_76 : decode cX9_firstConnecting 76 = .ok (.aload_n 0, 1) := by decide +kernel
theorem dX9_firstConnecting_77 : decode cX9_firstConnecting 77 = .ok (.getfield 49, 3) := by decide +kernel
theorem dX9_firstConnecting_80 : decode cX9_firstConnecting 80 = .ok (.iload_n 2, 1) := by decide +kernel
theorem dX9_firstConnecting_81 : decode cX9_firstConnecting 81 = .ok (.invokevirtual 222, 3) := by decide +kernel
theorem dX9_firstConnecting_84 : decode cX9_firstConnecting 84 = .ok (.invokestatic 248, 3) := by decide +kernel
theorem dX9_firstConnecting_87 : decode cX9_firstConnecting 87 = .ok (.invokevirtual 237, 3) := by decide +kernel
theorem dX9_firstConnecting_90 : decode cX9_firstConnecting 90 = .ok (.iload_n 3, 1) := by decide +kernel
theorem dX9_firstConnecting_91 : decode cX9_firstConnecting 91 = .ok (.iload_n 1, 1) := by decide +kernel
theorem dX9_firstConnecting_92 : decode cX9_firstConnecting 92 = .ok (.if_icmp .ge 12, 3) := by decide +kernel
theorem dX9_firstConnecting_95 : decode cX9_firstConnecting 95 = .ok (.aload_n 0, 1) := by decide +kernel
theorem dX9_firstConnecting_96 : decode cX9_firstConnecting 96 = .ok (.getfield 49, 3) := by decide +kernel
theorem dX9_firstConnecting_99 : decode cX9_firstConnecting 99 = .ok (.iload_n 2, 1) := by decide +kernel
theorem dX9_firstConnecting_100 : decode cX9_firstConnecting 100 = .ok (.invokevirtual 222, 3) := by decide +kernel
theorem dX9_firstConnecting_103 : decode cX9_firstConnecting 103 = .ok (.ireturn, 1) := by decide +kernel
theorem dX9_firstConnecting_104 : decode cX9_firstConnecting 104 = .ok (.iinc 2 1, 3) := by decide +kernel
theorem dX9_firstConnecting_107 : decode cX9_firstConnecting 107 = .ok (.goto (-70), 3) := by decide +kernel
theorem dX9_firstConnecting_110 : decode cX9_firstConnecting 110 = .ok (.iconst (-1), 1) := by decide +kernel
theorem dX9_firstConnecting_111 : decode cX9_firstConnecting 111 = .ok (.ireturn, 1) := by decide +kernel
theorem dX9_mostSimplifying_0 : decode cX9_mostSimplifying 0 = .ok (.iconst (-1), 1) := by decide +kernel
theorem dX9_mostSimplifying_1 : decode cX9_mostSimplifying 1 = .ok (.istore_n 1, 1) := by decide +kernel
theorem dX9_mostSimplifying_2 : decode cX9_mostSimplifying 2 = .ok (.aload_n 0, 1) := by decide +kernel
theorem dX9_mostSimplifying_3 : decode cX9_mostSimplifying 3 = .ok (.getfield 19, 3) := by decide +kernel
theorem dX9_mostSimplifying_6 : decode cX9_mostSimplifying 6 = .ok (.invokevirtual 148, 3) := by decide +kernel
theorem dX9_mostSimplifying_9 : decode cX9_mostSimplifying 9 = .ok (.istore_n 2, 1) := by decide +kernel
theorem dX9_mostSimplifying_10 : decode cX9_mostSimplifying 10 = .ok (.aload_n 0, 1) := by decide +kernel
theorem dX9_mostSimplifying_11 : decode cX9_mostSimplifying 11 = .ok (.getfield 49, 3) := by decide +kernel
theorem dX9_mostSimplifying_14 : decode cX9_mostSimplifying 14 = .ok (.aload_n 0, 1) := by decide +kernel
theorem dX9_mostSimplifying_15 : decode cX9_mostSimplifying 15 = .ok (.getfield 19, 3) := by decide +kernel
theorem dX9_mostSimplifying_18 : decode cX9_mostSimplifying 18 = .ok (.iconst 0, 1) := by decide +kernel
theorem dX9_mostSimplifying_19 : decode cX9_mostSimplifying 19 = .ok (.invokevirtual 210, 3) := by decide +kernel
theorem dX9_mostSimplifying_22 : decode cX9_mostSimplifying 22 = .ok (.aload_n 0, 1) := by decide +kernel
theorem dX9_mostSimplifying_23 : decode cX9_mostSimplifying 23 = .ok (.getfield 26, 3) := by decide +kernel
theorem dX9_mostSimplifying_26 : decode cX9_mostSimplifying 26 = .ok (.aload_n 0, 1) := by decide +kernel
theorem dX9_mostSimplifying_27 : decode cX9_mostSimplifying 27 = .ok (.getfield 19, 3) := by decide +kernel
theorem dX9_mostSimplifying_30 : decode cX9_mostSimplifying 30 = .ok (.invokevirtual 105, 3) := by decide +kernel
theorem dX9_mostSimplifying_33 : decode cX9_mostSimplifying 33 = .ok (.iconst 0, 1) := by decide +kernel
theorem dX9_mostSimplifying_34 : decode cX9_mostSimplifying 34 = .ok (.istore_n 3, 1) := by decide +kernel
theorem dX9_mostSimplifying_35 : decode cX9_mostSimplifying 35 = .ok (.iload_n 3, 1) := by decide +kernel
theorem dX9_mostSimplifying_36 : decode cX9_mostSimplifying 36 = .ok (.aload_n 0, 1) := by decide +kernel
theorem dX9_mostSimplifying_37 : decode cX9_mostSimplifying 37 = .ok (.getfield 49, 3) := by decide +kernel
theorem dX9_mostSimplifying_40 : decode cX9_mostSimplifying 40 = .ok (.invokevirtual 214, 3) := by decide +kernel
theorem dX9_mostSimplifying_43 : decode cX9_mostSimplifying 43 = .ok (.if_icmp .ge 69, 3) := by decide +kernel
theorem dX9_mostSimplifying_46 : decode cX9_mostSimplifying 46 = .ok (.aload_n 0, 1) := by decide +kernel
theorem dX9_mostSimplifying_47 : decode cX9_mostSimplifying 47 = .ok (.getfield 26, 3) := by decide +kernel
theorem dX9_mostSimplifying_50 : decode cX9_mostSimplifying 50 = .ok (.aload_n 0, 1) := by decide +kernel
theorem dX9_mostSimplifying_51 : decode cX9_mostSimplifying 51 = .ok (.getfield 49, 3) := by decide +kernel
theorem dX9_mostSimplifying_54 : decode cX9_mostSimplifying 54 = .ok (.iload_n 3, 1) := by decide +kernel
theorem dX9_mostSimplifying_55 : decode cX9_mostSimplifying 55 = .ok (.invokevirtual 222, 3) := by decide +kernel
theorem dX9_mostSimplifying_58 : decode cX9_mostSimplifying 58 = .ok (.invokevirtual 237, 3) := by decide +kernel
theorem dX9_mostSimplifying_61 : decode cX9_mostSimplifying 61 = .ok (.aload_n 0, 1) := by decide +kernel
theorem dX9_mostSimplifying_62 : decode cX9_mostSimplifying 62 = .ok (.getfield 26, 3) := by decide +kernel
theorem dX9_mostSimplifying_65 : decode cX9_mostSimplifying 65 = .ok (.invokevirtual 148, 3) := by decide +kernel
theorem dX9_mostSimplifying_68 : decode cX9_mostSimplifying 68 = .ok (.istore 4, 2) := by decide +kernel
theorem dX9_mostSimplifying_70 : decode cX9_mostSimplifying 70 = .ok (.aload_n 0, 1) := by decide +kernel
theorem dX9_mostSimplifying_71 : decode cX9_mostSimplifying 71 = .ok (.getfield 26, 3) := by decide +kernel
theorem dX9_mostSimplifying_74 : decode cX9_mostSimplifying 74 = .ok (.aload_n 0, 1) := by decide +kernel
theorem dX9_mostSimplifying_75 : decode cX9_mostSimplifying 75 = .ok (.getfield 49, 3) := by decide +kernel
theorem dX9_mostSimplifying_78 : decode cX9_mostSimplifying 78 = .ok (.iload_n 3, 1) := by decide +kernel
theorem dX9_mostSimplifying_79 : decode cX9_mostSimplifying 79 = .ok (.invokevirtual 222, 3) := by decide +kernel
theorem dX9_mostSimplifying_82 : decode cX9_mostSimplifying 82 = .ok (.invokestatic 248, 3) := by decide +kernel
theorem dX9_mostSimplifying_85 : decode cX9_mostSimplifying 85 = .ok (.invokevirtual 237, 3) := by decide +kernel
theorem dX9_mostSimplifying_88 : decode cX9_mostSimplifying 88 = .ok (.iload 4, 2) := by decide +kernel
theorem dX9_mostSimplifying_90 : decode cX9_mostSimplifying 90 = .ok (.iload_n 2, 1) := by decide +kernel
theorem dX9_mostSimplifying_91 : decode cX9_mostSimplifying 91 = .ok (.if_icmp .ge 15, 3) := by decide +kernel
theorem dX9_mostSimplifying_94 : decode cX9_mostSimplifying 94 = .ok (.iload 4, 2) := by decide +kernel
theorem dX9_mostSimplifying_96 : decode cX9_mostSimplifying 96 = .ok (.istore_n 2, 1) := by decide +kernel
theorem dX9_mostSimplifying_97 : decode cX9_mostSimplifying 97 = .ok (.aload_n 0, 1) := by decide +kernel
theorem dX9_mostSimplifying_98 : decode cX9_mostSimplifying 98 = .ok (.getfield 49, 3) := by decide +kernel
theorem dX9_mostSimplifying_101 : decode cX9_mostSimplifying 101 = .ok (.iload_n 3, 1) := by decide +kernel
theorem dX9_mostSimplifying_102 : decode cX9_mostSimplifying 102 = .ok (.invokevirtual 222, 3) := by decide +kernel
theorem dX9_mostSimplifying_105 : decode cX9_mostSimplifying 105 = .ok (.istore_n 1, 1) := by decide +kernel
theorem dX9_mostSimplifying_106 : decode cX9_mostSimplifying 106 = .ok (.iinc 3 1, 3) := by decide +kernel
theorem dX9_mostSimplifying_109 : decode cX9_mostSimplifying 109 = .ok (.goto (-74), 3) := by decide +kernel
theorem dX9_mostSimplifying_112 : decode cX9_mostSimplifying 112 = .ok (.iload_n 1, 1) := by decide +kernel
theorem dX9_mostSimplifying_113 : decode cX9_mostSimplifying 113 = .ok (.ireturn, 1) := by decide +kernel
theorem dX10_init_0 : decode cX10_init 0 = .ok (.aload_n 0, 1) := by decide +kernel
theorem dX10_init_1 : decode cX10_init 1 = .ok (.invokespecial 1, 3) := by decide +kernel
theorem dX10_init_4 : decode cX10_init 4 = .ok (.aload_n 0, 1) := by decide +kernel
theorem dX10_init_5 : decode cX10_init 5 = .ok (.sipush 130, 3) := by decide +kernel
theorem dX10_init_8 : decode cX10_init 8 = .ok (.newarray .int, 2) := by decide +kernel
theorem dX10_init_10 : decode cX10_init 10 = .ok (.putfield 7, 3) := by decide +kernel
theorem dX10_init_13 : decode cX10_init 13 = .ok (.aload_n 0, 1) := by decide +kernel
theorem dX10_init_14 : decode cX10_init 14 = .ok (.sipush 130, 3) := by decide +kernel
theorem dX10_init_17 : decode cX10_init 17 = .ok (.newarray .int, 2) := by decide +kernel
theorem dX10_init_19 : decode cX10_init 19 = .ok (.putfield 13, 3) := by decide +kernel
theorem dX10_init_22 : decode cX10_init 22 = .ok (.aload_n 0, 1) := by decide +kernel
theorem dX10_init_23 : decode cX10_init 23 = .ok (.sipush 1300, 3) := by decide +kernel
theorem dX10_init_26 : decode cX10_init 26 = .ok (.newarray .int, 2) := by decide +kernel
theorem dX10_init_28 : decode cX10_init 28 = .ok (.putfield 16, 3) := by decide +kernel
theorem dX10_init_31 : decode cX10_init 31 = .ok (.aload_n 0, 1) := by decide +kernel
theorem dX10_init_32 : decode cX10_init 32 = .ok (.sipush 400, 3) := by decide +kernel
theorem dX10_init_35 : decode cX10_init 35 = .ok (.newarray .int, 2) := by decide +kernel
theorem dX10_init_37 : decode cX10_init 37 = .ok (.putfield 19, 3) := by decide +kernel
theorem dX10_init_40 : decode cX10_init 40 = .ok (.aload_n 0, 1) := by decide +kernel
theorem dX10_init_41 : decode cX10_init 41 = .ok (.iconst (-1), 1) := by decide +kernel
theorem dX10_init_42 : decode cX10_init 42 = .ok (.putfield 22, 3) := by decide +kernel
theorem dX10_init_45 : decode cX10_init 45 = .ok (.aload_n 0, 1) := by decide +kernel
theorem dX10_init_46 : decode cX10_init 46 = .ok (.bipush 8, 2) := by decide +kernel
theorem dX10_init_48 : decode cX10_init 48 = .ok (.newarray .int, 2) := by decide +kernel
theorem dX10_init_50 : decode cX10_init 50 = .ok (.putfield 26, 3) := by decide +kernel
theorem dX10_init_53 : decode cX10_init 53 = .ok (.aload_n 0, 1) := by decide +kernel
theorem dX10_init_54 : decode cX10_init 54 = .ok (.bipush 8, 2) := by decide +kernel
theorem dX10_init_56 : decode cX10_init 56 = .ok (.newarray .int, 2) := by decide +kernel
theorem dX10_init_58 : decode cX10_init 58 = .ok (.putfield 29, 3) := by decide +kernel
theorem dX10_init_61 : decode cX10_init 61 = .ok (.aload_n 0, 1) := by decide +kernel
theorem dX10_init_62 : decode cX10_init 62 = .ok (.bipush 8, 2) := by decide +kernel
theorem dX10_init_64 : decode cX10_init 64 = .ok (.newarray .int, 2) := by decide +kernel
theorem dX10_init_66 : decode cX10_init 66 = .ok (.putfield 32, 3) := by decide +kernel
theorem dX10_init_69 : decode cX10_init 69 = .ok (.aload_n 0, 1) := by decide +kernel
theorem dX10_init_70 : decode cX10_init 70 = .ok (.bipush 8, 2) := by decide +kernel
theorem dX10_init_72 : decode cX10_init 72 = .ok (.newarray .int, 2) := by decide +kernel
theorem dX10_init_74 : decode cX10_init 74 = .ok (.putfield 35, 3) := by decide +kernel
theorem dX10_init_77 : decode cX10_init 77 = .ok (.aload_n 0, 1) := by decide +kernel
theorem dX10_init_78 : decode cX10_init 78 = .ok (.bipush 8, 2) := by decide +kernel
theorem dX10_init_80 : decode cX10_init 80 = .ok (.newarray .int, 2) := by decide +kernel
theorem dX10_init_82 : decode cX10_init 82 = .ok (.putfield 38, 3) := by decide +kernel
theorem dX10_init_85 : decode cX10_init 85 = .ok (.aload_n 0, 1) := by decide +kernel
theorem dX10_init_86 : decode cX10_init 86 = .ok (.bipush 8, 2) := by decide +kernel
theorem dX10_init_88 : decode cX10_init 88 = .ok (.newarray .boolean, 2) := by decide +kernel
theorem dX10_init_90 : decode cX10_init 90 = .ok (.putfield 41, 3) := by decide +kernel
theorem dX10_init_93 : decode cX10_init 93 = .ok (.aload_n 0, 1) := by decide +kernel
theorem dX10_init_94 : decode cX10_init 94 = .ok (.sipush 4096, 3) := by decide +kernel
theorem dX10_init_97 : decode cX10_init 97 = .ok (.newarray .int, 2) := by decide +kernel
theorem dX10_init_99 : decode cX10_init 99 = .ok (.putfield 45, 3) := by decide +kernel
theorem dX10_init_102 : decode cX10_init 102 = .ok (.aload_n 0, 1) := by decide +kernel
theorem dX10_init_103 : decode cX10_init 103 = .ok (.bipush 64, 2) := by decide +kernel
theorem dX10_init_105 : decode cX10_init 105 = .ok (.newarray .int, 2) := by decide +kernel
theorem dX10_init_107 : decode cX10_init 107 = .ok (.putfield 48, 3) := by decide +kernel
theorem dX10_init_110 : decode cX10_init 110 = .ok (.aload_n 0, 1) := by decide +kernel
theorem dX10_init_111 : decode cX10_init 111 = .ok (.sipush 160, 3) := by decide +kernel
theorem dX10_init_114 : decode cX10_init 114 = .ok (.newarray .int, 2) := by decide +kernel
theorem dX10_init_116 : decode cX10_init 116 = .ok (.putfield 51, 3) := by decide +kernel
theorem dX10_init_119 : decode cX10_init 119 = .ok (.aload_n 0, 1) := by decide +kernel
theorem dX10_init_120 : decode cX10_init 120 = .ok (.getfield 7, 3) := by decide +kernel
theorem dX10_init_123 : decode cX10_init 123 = .ok (.iconst 0, 1) := by decide +kernel
theorem dX10_init_124 : decode cX10_init 124 = .ok (.iconst 1, 1) := by decide +kernel
theorem dX10_init_125 : decode cX10_init 125 = .ok (.iastore, 1) := by decide +kernel
theorem dX10_init_126 : decode cX10_init 126 = .ok (.return_, 1) := by decide +kernel
theorem dX10_thrown_0 : decode cX10_thrown 0 = .ok (.aload_n 0, 1) := by decide +kernel
theorem dX10_thrown_1 : decode cX10_thrown 1 = .ok (.getfield 54, 3) := by decide +kernel
theorem dX10_thrown_4 : decode cX10_thrown 4 = .ok (.ireturn, 1) := by decide +kernel
theorem dX10_isIn_0 : decode cX10_isIn 0 = .ok (.iload_n 0, 1) := by decide +kernel
theorem dX10_isIn_1 : decode cX10_isIn 1 = .ok (.iload_n 1, 1) := by decide +kernel
theorem dX10_isIn_2 : decode cX10_isIn 2 = .ok (.if_icmp .lt 12, 3) := by decide +kernel
theorem dX10_isIn_5 : decode cX10_isIn 5 = .ok (.iload_n 0, 1) := by decide +kernel
theorem dX10_isIn_6 : decode cX10_isIn 6 = .ok (.iload_n 2, 1) := by decide +kernel
theorem dX10_isIn_7 : decode cX10_isIn 7 = .ok (.if_icmp .gt 7, 3) := by decide +kernel
theorem dX10_isIn_10 : decode cX10_isIn 10 = .ok (.iconst 1, 1) := by decide +kernel
theorem dX10_isIn_11 : decode cX10_isIn 11 = .ok (.goto 4, 3) := by decide +kernel
theorem dX10_isIn_14 : decode cX10_isIn 14 = .ok (.iconst 0, 1) := by decide +kernel
theorem dX10_isIn_15 : decode cX10_isIn 15 = .ok (.ireturn, 1) := by decide +kernel
theorem dX10_good_0 : decode cX10_good 0 = .ok (.aload_n 0, 1) := by decide +kernel
theorem dX10_good_1 : decode cX10_good 1 = .ok (.iload_n 1, 1) := by decide +kernel
theorem dX10_good_2 : decode cX10_good 2 = .ok (.ifCond .eq 7, 3) := by decide +kernel
theorem dX10_good_5 : decode cX10_good 5 = .ok (.iconst 0, 1) := by decide +kernel
theorem dX10_good_6 : decode cX10_good 6 = .ok (.goto 4, 3) := by decide +kernel
theorem dX10_good_9 : decode cX10_good 9 = .ok (.iconst 1, 1) := by decide +kernel
theorem dX10_good_10 : decode cX10_good 10 = .ok (.putfield 54, 3) := by decide +kernel
theorem dX10_good_13 : decode cX10_good 13 = .ok (.iload_n 1, 1) := by decide +kernel
theorem dX10_good_14 : decode cX10_good 14 = .ok (.ireturn, 1) := by decide +kernel
theorem dX10_good__0 : decode cX10_good_ 0 = .ok (.aload_n 0, 1) := by decide +kernel
theorem dX10_good__1 : decode cX10_good_ 1 = .ok (.iload_n 1, 1) := by decide +kernel
theorem dX10_good__2 : decode cX10_good_ 2 = .ok (.iload_n 2, 1) := by decide +kernel
theorem dX10_good__3 : decode cX10_good_ 3 = .ok (.iconst 1, 1) := by decide +kernel
theorem dX10_good__4 : decode cX10_good_ 4 = .ok (.invokevirtual 57, 3) := by decide +kernel
theorem dX10_good__7 : decode cX10_good_ 7 = .ok (.ireturn, 1) := by decide +kernel
theorem dX10_good___0 : decode cX10_good__ 0 = .ok (.aload_n 0, 1) := by decide +kernel
theorem dX10_good___1 : decode cX10_good__ 1 = .ok (.iconst 0, 1) := by decide +kernel
theorem dX10_good___2 : decode cX10_good__ 2 = .ok (.putfield 54, 3) := by decide +kernel
theorem dX10_good___5 : decode cX10_good__ 5 = .ok (.iload_n 1, 1) := by decide +kernel
theorem dX10_good___6 : decode cX10_good__ 6 = .ok (.ifCond .ne 11, 3) := by decide +kernel
theorem dX10_good___9 : decode cX10_good__ 9 = .ok (.aload_n 0, 1) := by decide +kernel
theorem dX10_good___10 : decode cX10_good__ 10 = .ok (.iconst 1, 1) := by decide +kernel
theorem dX10_good___11 : decode cX10_good__ 11 = .ok (.putfield 54, 3) := by decide +kernel
theorem dX10_good___14 : decode cX10_good__ 14 = .ok (.goto 24, 3) := by decide +kernel
theorem dX10_good___17 : decode cX10_good__ 17 = .ok (.iload_n 2, 1) := by decide +kernel
theorem dX10_good___18 : decode cX10_good__ 18 = .ok (.ifCond .ne 11, 3) := by decide +kernel
theorem dX10_good___21 : decode cX10_good__ 21 = .ok (.aload_n 0, 1) := by decide +kernel
theorem dX10_good___22 : decode cX10_good__ 22 = .ok (.iconst 2, 1) := by decide +kernel
theorem dX10_good___23 : decode cX10_good__ 23 = .ok (.putfield 54, 3) := by decide +kernel
theorem dX10_good___26 : decode cX10_good__ 26 = .ok (.goto 12, 3) := by decide +kernel
theorem dX10_good___29 : decode cX10_good__ 29 = .ok (.iload_n 3, 1) := by decide +kernel
theorem dX10_good___30 : decode cX10_good__ 30 = .ok (.ifCond .ne 8, 3) := by decide +kernel
theorem dX10_good___33 : decode cX10_good__ 33 = .ok (.aload_n 0, 1) := by decide +kernel
theorem dX10_good___34 : decode cX10_good__ 34 = .ok (.iconst 3, 1) := by decide +kernel
theorem dX10_good___35 : decode cX10_good__ 35 = .ok (.putfield 54, 3) := by decide +kernel
theorem dX10_good___38 : decode cX10_good__ 38 = .ok (.aload_n 0, 1) := by decide +kernel
theorem dX10_good___39 : decode cX10_good__ 39 = .ok (.getfield 54, 3) := by decide +kernel
theorem dX10_good___42 : decode cX10_good__ 42 = .ok (.ifCond .ne 7, 3) := by decide +kernel
theorem dX10_good___45 : decode cX10_good__ 45 = .ok (.iconst 1, 1) := by decide +kernel
theorem dX10_good___46 : decode cX10_good__ 46 = .ok (.goto 4, 3) := by decide +kernel
theorem dX10_good___49 : decode cX10_good__ 49 = .ok (.iconst 0, 1) := by decide +kernel
theorem dX10_good___50 : decode cX10_good__ 50 = .ok (.ireturn, 1) := by decide +kernel
theorem dX10_remember_0 : decode cX10_remember 0 = .ok (.aload_n 0, 1) := by decide +kernel
theorem dX10_remember_1 : decode cX10_remember 1 = .ok (.getfield 61, 3) := by decide +kernel
theorem dX10_remember_4 : decode cX10_remember 4 = .ok (.bipush 10, 2) := by decide +kernel
theorem dX10_remember_6 : decode cX10_remember 6 = .ok (.if_icmp .ne 46, 3) := by decide +kernel
theorem dX10_remember_9 : decode cX10_remember 9 = .ok (.sipush 130, 3) := by decide +kernel
theorem dX10_remember_12 : decode cX10_remember 12 = .ok (.istore_n 1, 1) := by decide +kernel
theorem dX10_remember_13 : decode cX10_remember 13 = .ok (.iload_n 1, 1) := by decide +kernel
theorem dX10_remember_14 : decode cX10_remember 14 = .ok (.sipush 1300, 3) := by decide +kernel
theorem dX10_remember_17 : decode cX10_remember 17 = .ok (.if_icmp .ge 25, 3) := by decide +kernel
theorem dX10_remember_20 : decode cX10_remember 20 = .ok (.aload_n 0, 1) := by decide +kernel
theorem dX10_remember_21 : decode cX10_remember 21 = .ok (.getfield 16, 3) := by decide +kernel
theorem dX10_remember_24 : decode cX10_remember 24 = .ok (.iload_n 1, 1) := by decide +kernel
theorem dX10_remember_25 : decode cX10_remember 25 = .ok (.sipush 130, 3) := by decide +kernel
theorem dX10_remember_28 : decode cX10_remember 28 = .ok (.isub, 1) := by decide +kernel
theorem dX10_remember_29 : decode cX10_remember 29 = .ok (.aload_n 0, 1) := by decide +kernel
theorem dX10_remember_30 : decode cX10_remember 30 = .ok (.getfield 16, 3) := by decide +kernel
theorem dX10_remember_33 : decode cX10_remember 33 = .ok (.iload_n 1, 1) := by decide +kernel
theorem dX10_remember_34 : decode cX10_remember 34 = .ok (.iaload, 1) := by decide +kernel
theorem dX10_remember_35 : decode cX10_remember 35 = .ok (.iastore, 1) := by decide +kernel
theorem dX10_remember_36 : decode cX10_remember 36 = .ok (.iinc 1 1, 3) := by decide +kernel
theorem dX10_remember_39 : decode cX10_remember 39 = .ok (.goto (-26), 3) := by decide +kernel
theorem dX10_remember_42 : decode cX10_remember 42 = .ok (.aload_n 0, 1) := by decide +kernel
theorem dX10_remember_43 : decode cX10_remember 43 = .ok (.dup, 1) := by decide +kernel
theorem dX10_remember_44 : decode cX10_remember 44 = .ok (.getfield 61, 3) := by decide +kernel
theorem dX10_remember_47 : decode cX10_remember 47 = .ok (.iconst 1, 1) := by decide +kernel
theorem dX10_remember_48 : decode cX10_remember 48 = .ok (.isub, 1) := by decide +kernel
theorem dX10_remember_49 : decode cX10_remember 49 = .ok (.putfield 61, 3) := by decide +kernel
theorem dX10_remember_52 : decode cX10_remember 52 = .ok (.iconst 0, 1) := by decide +kernel
theorem dX10_remember_53 : decode cX10_remember 53 = .ok (.istore_n 1, 1) := by decide +kernel
theorem dX10_remember_54 : decode cX10_remember 54 = .ok (.iload_n 1, 1) := by decide +kernel
theorem dX10_remember_55 : decode cX10_remember 55 = .ok (.sipush 130, 3) := by decide +kernel
theorem dX10_remember_58 : decode cX10_remember 58 = .ok (.if_icmp .ge 30, 3) := by decide +kernel
theorem dX10_remember_61 : decode cX10_remember 61 = .ok (.aload_n 0, 1) := by decide +kernel
theorem dX10_remember_62 : decode cX10_remember 62 = .ok (.getfield 16, 3) := by decide +kernel
theorem dX10_remember_65 : decode cX10_remember 65 = .ok (.sipush 130, 3) := by decide +kernel
theorem dX10_remember_68 : decode cX10_remember 68 = .ok (.aload_n 0, 1) := by decide +kernel
theorem dX10_remember_69 : decode cX10_remember 69 = .ok (.getfield 61, 3) := by decide +kernel
theorem dX10_remember_72 : decode cX10_remember 72 = .ok (.imul, 1) := by decide +kernel
theorem dX10_remember_73 : decode cX10_remember 73 = .ok (.iload_n 1, 1) := by decide +kernel
theorem dX10_remember_74 : decode cX10_remember 74 = .ok (.iadd, 1) := by decide +kernel
theorem dX10_remember_75 : decode cX10_remember 75 = .ok (.aload_n 0, 1) := by decide +kernel
theorem dX10_remember_76 : decode cX10_remember 76 = .ok (.getfield 7, 3) := by decide +kernel
theorem dX10_remember_79 : decode cX10_remember 79 = .ok (.iload_n 1, 1) := by decide +kernel
theorem dX10_remember_80 : decode cX10_remember 80 = .ok (.iaload, 1) := by decide +kernel
theorem dX10_remember_81 : decode cX10_remember 81 = .ok (.iastore, 1) := by decide +kernel
theorem dX10_remember_82 : decode cX10_remember 82 = .ok (.iinc 1 1, 3) := by decide +kernel
theorem dX10_remember_85 : decode cX10_remember 85 = .ok (.goto (-31), 3) := by decide +kernel
theorem dX10_remember_88 : decode cX10_remember 88 = .ok (.aload_n 0, 1) := by decide +kernel
theorem dX10_remember_89 : decode cX10_remember 89 = .ok (.dup, 1) := by decide +kernel
theorem dX10_remember_90 : decode cX10_remember 90 = .ok (.getfield 61, 3) := by decide +kernel
theorem dX10_remember_93 : decode cX10_remember 93 = .ok (.iconst 1, 1) := by decide +kernel
theorem dX10_remember_94 : decode cX10_remember 94 = .ok (.iadd, 1) := by decide +kernel
theorem dX10_remember_95 : decode cX10_remember 95 = .ok (.putfield 61, 3) := by decide +kernel
theorem dX10_remember_98 : decode cX10_remember 98 = .ok (.return_, 1) := by decide +kernel
theorem dX10_undo_0 : decode cX10_undo 0 = .ok (.aload_n 0, 1) := by decide +kernel
theorem dX10_undo_1 : decode cX10_undo 1 = .ok (.iconst 0, 1) := by decide +kernel
theorem dX10_undo_2 : decode cX10_undo 2 = .ok (.putfield 54, 3) := by decide +kernel
theorem dX10_undo_5 : decode cX10_undo 5 = .ok (.aload_n 0, 1) := by decide +kernel
theorem dX10_undo_6 : decode cX10_undo 6 = .ok (.getfield 61, 3) := by decide +kernel
theorem dX10_undo_9 : decode cX10_undo 9 = .ok (.ifCond .ne 5, 3) := by decide +kernel
theorem dX10_undo_12 : decode cX10_undo 12 = .ok (.iconst (-1), 1) := by decide +kernel
theorem dX10_undo_13 : decode cX10_undo 13 = .ok (.ireturn, 1) := by decide +kernel
theorem dX10_undo_14 : decode cX10_undo 14 = .ok (.aload_n 0, 1) := by decide +kernel
theorem dX10_undo_15 : decode cX10_undo 15 = .ok (.dup, 1) := by decide +kernel
theorem dX10_undo_16 : decode cX10_undo 16 = .ok (.getfield 61, 3) := by decide +kernel
theorem dX10_undo_19 : decode cX10_undo 19 = .ok (.iconst 1, 1) := by decide +kernel
theorem dX10_undo_20 : decode cX10_undo 20 = .ok (.isub, 1) := by decide +kernel
theorem dX10_undo_21 : decode cX10_undo 21 = .ok (.putfield 61, 3) := by decide +kernel
theorem dX10_undo_24 : decode cX10_undo 24 = .ok (.iconst 0, 1) := by decide +kernel
theorem dX10_undo_25 : decode cX10_undo 25 = .ok (.istore_n 1, 1) := by decide +kernel
theorem dX10_undo_26 : decode cX10_undo 26 = .ok (.iload_n 1, 1) := by decide +kernel
theorem dX10_undo_27 : decode cX10_undo 27 = .ok (.sipush 130, 3) := by decide +kernel
theorem dX10_undo_30 : decode cX10_undo 30 = .ok (.if_icmp .ge 30, 3) := by decide +kernel
theorem dX10_undo_33 : decode cX10_undo 33 = .ok (.aload_n 0, 1) := by decide +kernel
theorem dX10_undo_34 : decode cX10_undo 34 = .ok (.getfield 7, 3) := by decide +kernel
theorem dX10_undo_37 : decode cX10_undo 37 = .ok (.iload_n 1, 1) := by decide +kernel
theorem dX10_undo_38 : decode cX10_undo 38 = .ok (.aload_n 0, 1) := by decide +kernel
theorem dX10_undo_39 : decode cX10_undo 39 = .ok (.getfield 16, 3) := by decide +kernel
theorem dX10_undo_42 : decode cX10_undo 42 = .ok (.sipush 130, 3) := by decide +kernel
theorem dX10_undo_45 : decode cX10_undo 45 = .ok (.aload_n 0, 1) := by decide +kernel
theorem dX10_undo_46 : decode cX10_undo 46 = .ok (.getfield 61, 3) := by decide +kernel
theorem dX10_undo_49 : decode cX10_undo 49 = .ok (.imul, 1) := by decide +kernel
theorem dX10_undo_50 : decode cX10_undo 50 = .ok (.iload_n 1, 1) := by decide +kernel
theorem dX10_undo_51 : decode cX10_undo 51 = .ok (.iadd, 1) := by decide +kernel
theorem dX10_undo_52 : decode cX10_undo 52 = .ok (.iaload, 1) := by decide +kernel
theorem dX10_undo_53 : decode cX10_undo 53 = .ok (.iastore, 1) := by decide +kernel
theorem dX10_undo_54 : decode cX10_undo 54 = .ok (.iinc 1 1, 3) := by decide +kernel
theorem dX10_undo_57 : decode cX10_undo 57 = .ok (.goto (-31), 3) := by decide +kernel
theorem dX10_undo_60 : decode cX10_undo 60 = .ok (.aload_n 0, 1) := by decide +kernel
theorem dX10_undo_61 : decode cX10_undo 61 = .ok (.getfield 61, 3) := by decide +kernel
theorem dX10_undo_64 : decode cX10_undo 64 = .ok (.ireturn, 1) := by decide +kernel
theorem dX10_putAside_0 : decode cX10_putAside 0 = .ok (.iconst 0, 1) := by decide +kernel
theorem dX10_putAside_1 : decode cX10_putAside 1 = .ok (.istore_n 1, 1) := by decide +kernel
theorem dX10_putAside_2 : decode cX10_putAside 2 = .ok (.iload_n 1, 1) := by decide +kernel
theorem dX10_putAside_3 : decode cX10_putAside 3 = .ok (.sipush 130, 3) := by decide +kernel
theorem dX10_putAside_6 : decode cX10_putAside 6 = .ok (.if_icmp .ge 21, 3) := by decide +kernel
theorem dX10_putAside_9 : decode cX10_putAside 9 = .ok (.aload_n 0, 1) := by decide +kernel
theorem dX10_putAside_10 : decode cX10_putAside 10 = .ok (.getfield 13, 3) := by decide +kernel
theorem dX10_putAside_13 : decode cX10_putAside 13 = .ok (.iload_n 1, 1) := by decide +kernel
theorem dX10_putAside_14 : decode cX10_putAside 14 = .ok (.aload_n 0, 1) := by decide +kernel
theorem dX10_putAside_15 : decode cX10_putAside 15 = .ok (.getfield 7, 3) := by decide +kernel
theorem dX10_putAside_18 : decode cX10_putAside 18 = .ok (.iload_n 1, 1) := by decide +kernel
theorem dX10_putAside_19 : decode cX10_putAside 19 = .ok (.iaload, 1) := by decide +kernel
theorem dX10_putAside_20 : decode cX10_putAside 20 = .ok (.iastore, 1) := by decide +kernel
theorem dX10_putAside_21 : decode cX10_putAside 21 = .ok (.iinc 1 1, 3) := by decide +kernel
theorem dX10_putAside_24 : decode cX10_putAside 24 = .ok (.goto (-22), 3) := by decide +kernel
theorem dX10_putAside_27 : decode cX10_putAside 27 = .ok (.return_, 1) := by decide +kernel
theorem dX10_layBack_0 : decode cX10_layBack 0 = .ok (.iconst 0, 1) := by decide +kernel
theorem dX10_layBack_1 : decode cX10_layBack 1 = .ok (.istore_n 1, 1) := by decide +kernel
theorem dX10_layBack_2 : decode cX10_layBack 2 = .ok (.iload_n 1, 1) := by decide +kernel
theorem dX10_layBack_3 : decode cX10_layBack 3 = .ok (.sipush 130, 3) := by decide +kernel
theorem dX10_layBack_6 : decode cX10_layBack 6 = .ok (.if_icmp .ge 21, 3) := by decide +kernel
theorem dX10_layBack_9 : decode cX10_layBack 9 = .ok (.aload_n 0, 1) := by decide +kernel
theorem dX10_layBack_10 : decode cX10_layBack 10 = .ok (.getfield 7, 3) := by decide +kernel
theorem dX10_layBack_13 : decode cX10_layBack 13 = .ok (.iload_n 1, 1) := by decide +kernel
theorem dX10_layBack_14 : decode cX10_layBack 14 = .ok (.aload_n 0, 1) := by decide +kernel
theorem dX10_layBack_15 : decode cX10_layBack 15 = .ok (.getfield 13, 3) := by decide +kernel
theorem dX10_layBack_18 : decode cX10_layBack 18 = .ok (.iload_n 1, 1) := by decide +kernel
theorem dX10_layBack_19 : decode cX10_layBack 19 = .ok (.iaload, 1) := by decide +kernel
theorem dX10_layBack_20 : decode cX10_layBack 20 = .ok (.iastore, 1) := by decide +kernel
theorem dX10_layBack_21 : decode cX10_layBack 21 = .ok (.iinc 1 1, 3) := by decide +kernel
theorem dX10_layBack_24 : decode cX10_layBack 24 = .ok (.goto (-22), 3) := by decide +kernel
theorem dX10_layBack_27 : decode cX10_layBack 27 = .ok (.return_, 1) := by decide +kernel
theorem dX10_at_0 : decode cX10_at 0 = .ok (.iload_n 0, 1) := by decide +kernel
theorem dX10_at_1 : decode cX10_at 1 = .ok (.bipush 8, 2) := by decide +kernel
theorem dX10_at_3 : decode cX10_at 3 = .ok (.iload_n 1, 1) := by decide +kernel
theorem dX10_at_4 : decode cX10_at 4 = .ok (.imul, 1) := by decide +kernel
theorem dX10_at_5 : decode cX10_at 5 = .ok (.iadd, 1) := by decide +kernel
theorem dX10_at_6 : decode cX10_at 6 = .ok (.iload_n 2, 1) := by decide +kernel
theorem dX10_at_7 : decode cX10_at 7 = .ok (.iadd, 1) := by decide +kernel
theorem dX10_at_8 : decode cX10_at 8 = .ok (.ireturn, 1) := by decide +kernel
theorem dX10_many_0 : decode cX10_many 0 = .ok (.aload_n 0, 1) := by decide +kernel
theorem dX10_many_1 : decode cX10_many 1 = .ok (.getfield 7, 3) := by decide +kernel
theorem dX10_many_4 : decode cX10_many 4 = .ok (.iload_n 1, 1) := by decide +kernel
theorem dX10_many_5 : decode cX10_many 5 = .ok (.iload_n 2, 1) := by decide +kernel
theorem dX10_many_6 : decode cX10_many 6 = .ok (.iload_n 3, 1) := by decide +kernel
theorem dX10_many_7 : decode cX10_many 7 = .ok (.invokestatic 64, 3) := by decide +kernel
theorem dX10_many_10 : decode cX10_many 10 = .ok (.iaload, 1) := by decide +kernel
theorem dX10_many_11 : decode cX10_many 11 = .ok (.ireturn, 1) := by decide +kernel
theorem dX10_adds_0 : decode cX10_adds 0 = .ok (.aload_n 0, 1) := by decide +kernel
theorem dX10_adds_1 : decode cX10_adds 1 = .ok (.getfield 7, 3) := by decide +kernel
theorem dX10_adds_4 : decode cX10_adds 4 = .ok (.iload_n 1, 1) := by decide +kernel
theorem dX10_adds_5 : decode cX10_adds 5 = .ok (.iload_n 2, 1) := by decide +kernel
theorem dX10_adds_6 : decode cX10_adds 6 = .ok (.iload_n 3, 1) := by decide +kernel
theorem dX10_adds_7 : decode cX10_adds 7 = .ok (.invokestatic 64, 3) := by decide +kernel
theorem dX10_adds_10 : decode cX10_adds 10 = .ok (.dup2, 1) := by decide +kernel
theorem dX10_adds_11 : decode cX10_adds 11 = .ok (.iaload, 1) := by decide +kernel
theorem dX10_adds_12 : decode cX10_adds 12 = .ok (.iload 4, 2) := by decide +kernel
theorem dX10_adds_14 : decode cX10_adds 14 = .ok (.iadd, 1) := by decide +kernel
theorem dX10_adds_15 : decode cX10_adds 15 = .ok (.iastore, 1) := by decide +kernel
theorem dX10_adds_16 : decode cX10_adds 16 = .ok (.iload_n 2, 1) := by decide +kernel
theorem dX10_adds_17 : decode cX10_adds 17 = .ok (.iload_n 3, 1) := by decide +kernel
theorem dX10_adds_18 : decode cX10_adds 18 = .ok (.if_icmp .eq 19, 3) := by decide +kernel
theorem dX10_adds_21 : decode cX10_adds 21 = .ok (.aload_n 0, 1) := by decide +kernel
theorem dX10_adds_22 : decode cX10_adds 22 = .ok (.getfield 7, 3) := by decide +kernel
theorem dX10_adds_25 : decode cX10_adds 25 = .ok (.iload_n 1, 1) := by decide +kernel
theorem dX10_adds_26 : decode cX10_adds 26 = .ok (.iload_n 3, 1) := by decide +kernel
theorem dX10_adds_27 : decode cX10_adds 27 = .ok (.iload_n 2, 1) := by decide +kernel
theorem dX10_adds_28 : decode cX10_adds 28 = .ok (.invokestatic 64, 3) := by decide +kernel
theorem dX10_adds_31 : decode cX10_adds 31 = .ok (.dup2, 1) := by decide +kernel
theorem dX10_adds_32 : decode cX10_adds 32 = .ok (.iaload, 1) := by decide +kernel
theorem dX10_adds_33 : decode cX10_adds 33 = .ok (.iload 4, 2) := by decide +kernel
theorem dX10_adds_35 : decode cX10_adds 35 = .ok (.iadd, 1) := by decide +kernel
theorem dX10_adds_36 : decode cX10_adds 36 = .ok (.iastore, 1) := by decide +kernel
theorem dX10_adds_37 : decode cX10_adds 37 = .ok (.return_, 1) := by decide +kernel
theorem dX10_empties_0 : decode cX10_empties 0 = .ok (.iconst 0, 1) := by decide +kernel
theorem dX10_empties_1 : decode cX10_empties 1 = .ok (.istore_n 2, 1) := by decide +kernel
theorem dX10_empties_2 : decode cX10_empties 2 = .ok (.iload_n 2, 1) := by decide +kernel
theorem dX10_empties_3 : decode cX10_empties 3 = .ok (.bipush 64, 2) := by decide +kernel
theorem dX10_empties_5 : decode cX10_empties 5 = .ok (.if_icmp .ge 18, 3) := by decide +kernel
theorem dX10_empties_8 : decode cX10_empties 8 = .ok (.aload_n 0, 1) := by decide +kernel
theorem dX10_empties_9 : decode cX10_empties 9 = .ok (.getfield 7, 3) := by decide +kernel
theorem dX10_empties_12 : decode cX10_empties 12 = .ok (.iload_n 1, 1) := by decide +kernel
theorem dX10_empties_13 : decode cX10_empties 13 = .ok (.iload_n 2, 1) := by decide +kernel
theorem dX10_empties_14 : decode cX10_empties 14 = .ok (.iadd, 1) := by decide +kernel
theorem dX10_empties_15 : decode cX10_empties 15 = .ok (.iconst 0, 1) := by decide +kernel
theorem dX10_empties_16 : decode cX10_empties 16 = .ok (.iastore, 1) := by decide +kernel
theorem dX10_empties_17 : decode cX10_empties 17 = .ok (.iinc 2 1, 3) := by decide +kernel
theorem dX10_empties_20 : decode cX10_empties 20 = .ok (.goto (-18), 3) := by decide +kernel
theorem dX10_empties_23 : decode cX10_empties 23 = .ok (.return_, 1) := by decide +kernel
theorem dX10_edgesOf_0 : decode cX10_edgesOf 0 = .ok (.iconst 0, 1) := by decide +kernel
theorem dX10_edgesOf_1 : decode cX10_edgesOf 1 = .ok (.istore_n 2, 1) := by decide +kernel
theorem dX10_edgesOf_2 : decode cX10_edgesOf 2 = .ok (.iconst 0, 1) := by decide +kernel
theorem dX10_edgesOf_3 : decode cX10_edgesOf 3 = .ok (.istore_n 3, 1) := by decide +kernel
theorem dX10_edgesOf_4 : decode cX10_edgesOf 4 = .ok (.iload_n 3, 1) := by decide +kernel
theorem dX10_edgesOf_5 : decode cX10_edgesOf 5 = .ok (.bipush 8, 2) := by decide +kernel
theorem dX10_edgesOf_7 : decode cX10_edgesOf 7 = .ok (.if_icmp .ge 36, 3) := by decide +kernel
theorem dX10_edgesOf_10 : decode cX10_edgesOf 10 = .ok (.iload_n 3, 1) := by decide +kernel
theorem dX10_edgesOf_11 : decode cX10_edgesOf 11 = .ok (.istore 4, 2) := by decide +kernel
theorem dX10_edgesOf_13 : decode cX10_edgesOf 13 = .ok (.iload 4, 2) := by decide +kernel
theorem dX10_edgesOf_15 : decode cX10_edgesOf 15 = .ok (.bipush 8, 2) := by decide +kernel
theorem dX10_edgesOf_17 : decode cX10_edgesOf 17 = .ok (.if_icmp .ge 20, 3) := by decide +kernel
theorem dX10_edgesOf_20 : decode cX10_edgesOf 20 = .ok (.iload_n 2, 1) := by decide +kernel
theorem dX10_edgesOf_21 : decode cX10_edgesOf 21 = .ok (.aload_n 0, 1) := by decide +kernel
theorem dX10_edgesOf_22 : decode cX10_edgesOf 22 = .ok (.iload_n 1, 1) := by decide +kernel
theorem dX10_edgesOf_23 : decode cX10_edgesOf 23 = .ok (.iload_n 3, 1) := by decide +kernel
theorem dX10_edgesOf_24 : decode cX10_edgesOf 24 = .ok (.iload 4, 2) := by decide +kernel
theorem dX10_edgesOf_26 : decode cX10_edgesOf 26 = .ok (.invokevirtual 68, 3) := by decide +kernel
theorem dX10_edgesOf_29 : decode cX10_edgesOf 29 = .ok (.iadd, 1) := by decide +kernel
theorem dX10_edgesOf_30 : decode cX10_edgesOf 30 = .ok (.istore_n 2, 1) := by decide +kernel
theorem dX10_edgesOf_31 : decode cX10_edgesOf 31 = .ok (.iinc 4 1, 3) := by decide +kernel
theorem dX10_edgesOf_34 : decode cX10_edgesOf 34 = .ok (.goto (-21), 3) := by decide +kernel
theorem dX10_edgesOf_37 : decode cX10_edgesOf 37 = .ok (.iinc 3 1, 3) := by decide +kernel
theorem dX10_edgesOf_40 : decode cX10_edgesOf 40 = .ok (.goto (-36), 3) := by decide +kernel
theorem dX10_edgesOf_43 : decode cX10_edgesOf 43 = .ok (.iload_n 2, 1) := by decide +kernel
theorem dX10_edgesOf_44 : decode cX10_edgesOf 44 = .ok (.ireturn, 1) := by decide +kernel
theorem dX10_degreeOf_0 : decode cX10_degreeOf 0 = .ok (.aload_n 0, 1) := by decide +kernel
theorem dX10_degreeOf_1 : decode cX10_degreeOf 1 = .ok (.iload_n 1, 1) := by decide +kernel
theorem dX10_degreeOf_2 : decode cX10_degreeOf 2 = .ok (.iload_n 2, 1) := by decide +kernel
theorem dX10_degreeOf_3 : decode cX10_degreeOf 3 = .ok (.iload_n 2, 1) := by decide +kernel
theorem dX10_degreeOf_4 : decode cX10_degreeOf 4 = .ok (.invokevirtual 68, 3) := by decide +kernel
theorem dX10_degreeOf_7 : decode cX10_degreeOf 7 = .ok (.istore_n 3, 1) := by decide +kernel
theorem dX10_degreeOf_8 : decode cX10_degreeOf 8 = .ok (.iconst 0, 1) := by decide +kernel
theorem dX10_degreeOf_9 : decode cX10_degreeOf 9 = .ok (.istore 4, 2) := by decide +kernel
theorem dX10_degreeOf_11 : decode cX10_degreeOf 11 = .ok (.iload 4, 2) := by decide +kernel
theorem dX10_degreeOf_13 : decode cX10_degreeOf 13 = .ok (.bipush 8, 2) := by decide +kernel
theorem dX10_degreeOf_15 : decode cX10_degreeOf 15 = .ok (.if_icmp .ge 20, 3) := by decide +kernel
theorem dX10_degreeOf_18 : decode cX10_degreeOf 18 = .ok (.iload_n 3, 1) := by decide +kernel
theorem dX10_degreeOf_19 : decode cX10_degreeOf 19 = .ok (.aload_n 0, 1) := by decide +kernel
theorem dX10_degreeOf_20 : decode cX10_degreeOf 20 = .ok (.iload_n 1, 1) := by decide +kernel
theorem dX10_degreeOf_21 : decode cX10_degreeOf 21 = .ok (.iload_n 2, 1) := by decide +kernel
theorem dX10_degreeOf_22 : decode cX10_degreeOf 22 = .ok (.iload 4, 2) := by decide +kernel
theorem dX10_degreeOf_24 : decode cX10_degreeOf 24 = .ok (.invokevirtual 68, 3) := by decide +kernel
theorem dX10_degreeOf_27 : decode cX10_degreeOf 27 = .ok (.iadd, 1) := by decide +kernel
theorem dX10_degreeOf_28 : decode cX10_degreeOf 28 = .ok (.istore_n 3, 1) := by decide +kernel
theorem dX10_degreeOf_29 : decode cX10_degreeOf 29 = .ok (.iinc 4 1, 3) := by decide +kernel
theorem dX10_degreeOf_32 : decode cX10_degreeOf 32 = .ok (.goto (-21), 3) := by decide +kernel
theorem dX10_degreeOf_35 : decode cX10_degreeOf 35 = .ok (.iload_n 3, 1) := by decide +kernel
theorem dX10_degreeOf_36 : decode cX10_degreeOf 36 = .ok (.ireturn, 1) := by decide +kernel
theorem dX10_append_0 : decode cX10_append 0 = .ok (.bipush 24, 2) := by decide +kernel
theorem dX10_append_2 : decode cX10_append 2 = .ok (.istore_n 2, 1) := by decide +kernel
theorem dX10_append_3 : decode cX10_append 3 = .ok (.iload_n 2, 1) := by decide +kernel
theorem dX10_append_4 : decode cX10_append 4 = .ok (.ifCond .lt 35, 3) := by decide +kernel
theorem dX10_append_7 : decode cX10_append 7 = .ok (.aload_n 0, 1) := by decide +kernel
theorem dX10_append_8 : decode cX10_append 8 = .ok (.getfield 19, 3) := by decide +kernel
theorem dX10_append_11 : decode cX10_append 11 = .ok (.aload_n 0, 1) := by decide +kernel
theorem dX10_append_12 : decode cX10_append 12 = .ok (.getfield 71, 3) := by decide +kernel
theorem dX10_append_15 : decode cX10_append 15 = .ok (.iload_n 1, 1) := by decide +kernel
theorem dX10_append_16 : decode cX10_append 16 = .ok (.iload_n 2, 1) := by decide +kernel
theorem dX10_append_17 : decode cX10_append 17 = .ok (.iushr, 1) := by decide +kernel
theorem dX10_append_18 : decode cX10_append 18 = .ok (.sipush 255, 3) := by decide +kernel
theorem dX10_append_21 : decode cX10_append 21 = .ok (.iand, 1) := by decide +kernel
theorem dX10_append_22 : decode cX10_append 22 = .ok (.iastore, 1) := by decide +kernel
theorem dX10_append_23 : decode cX10_append 23 = .ok (.aload_n 0, 1) := by decide +kernel
theorem dX10_append_24 : decode cX10_append 24 = .ok (.dup, 1) := by decide +kernel
theorem dX10_append_25 : decode cX10_append 25 = .ok (.getfield 71, 3) := by decide +kernel
theorem dX10_append_28 : decode cX10_append 28 = .ok (.iconst 1, 1) := by decide +kernel
theorem dX10_append_29 : decode cX10_append 29 = .ok (.iadd, 1) := by decide +kernel
theorem dX10_append_30 : decode cX10_append 30 = .ok (.putfield 71, 3) := by decide +kernel
theorem dX10_append_33 : decode cX10_append 33 = .ok (.iinc 2 (-8), 3) := by decide +kernel
theorem dX10_append_36 : decode cX10_append 36 = .ok (.goto (-33), 3) := by decide +kernel
theorem dX10_append_39 : decode cX10_append 39 = .ok (.return_, 1) := by decide +kernel
theorem dX10_feed_0 : decode cX10_feed 0 = .ok (.aload_n 0, 1) := by decide +kernel
theorem dX10_feed_1 : decode cX10_feed 1 = .ok (.iconst 0, 1) := by decide +kernel
theorem dX10_feed_2 : decode cX10_feed 2 = .ok (.putfield 54, 3) := by decide +kernel
theorem dX10_feed_5 : decode cX10_feed 5 = .ok (.aload_n 0, 1) := by decide +kernel
theorem dX10_feed_6 : decode cX10_feed 6 = .ok (.getfield 71, 3) := by decide +kernel
theorem dX10_feed_9 : decode cX10_feed 9 = .ok (.bipush 20, 2) := by decide +kernel
theorem dX10_feed_11 : decode cX10_feed 11 = .ok (.iadd, 1) := by decide +kernel
theorem dX10_feed_12 : decode cX10_feed 12 = .ok (.sipush 400, 3) := by decide +kernel
theorem dX10_feed_15 : decode cX10_feed 15 = .ok (.if_icmp .le 6, 3) := by decide +kernel
theorem dX10_feed_18 : decode cX10_feed 18 = .ok (.bipush (-2), 2) := by decide +kernel
theorem dX10_feed_20 : decode cX10_feed 20 = .ok (.ireturn, 1) := by decide +kernel
theorem dX10_feed_21 : decode cX10_feed 21 = .ok (.aload_n 0, 1) := by decide +kernel
theorem dX10_feed_22 : decode cX10_feed 22 = .ok (.iload_n 1, 1) := by decide +kernel
theorem dX10_feed_23 : decode cX10_feed 23 = .ok (.invokevirtual 74, 3) := by decide +kernel
theorem dX10_feed_26 : decode cX10_feed 26 = .ok (.aload_n 0, 1) := by decide +kernel
theorem dX10_feed_27 : decode cX10_feed 27 = .ok (.iload_n 2, 1) := by decide +kernel
theorem dX10_feed_28 : decode cX10_feed 28 = .ok (.invokevirtual 74, 3) := by decide +kernel
theorem dX10_feed_31 : decode cX10_feed 31 = .ok (.aload_n 0, 1) := by decide +kernel
theorem dX10_feed_32 : decode cX10_feed 32 = .ok (.iload_n 3, 1) := by decide +kernel
theorem dX10_feed_33 : decode cX10_feed 33 = .ok (.invokevirtual 74, 3) := by decide +kernel
theorem dX10_feed_36 : decode cX10_feed 36 = .ok (.aload_n 0, 1) := by decide +kernel
theorem dX10_feed_37 : decode cX10_feed 37 = .ok (.iload 4, 2) := by decide +kernel
theorem dX10_feed_39 : decode cX10_feed 39 = .ok (.invokevirtual 74, 3) := by decide +kernel
theorem dX10_feed_42 : decode cX10_feed 42 = .ok (.aload_n 0, 1) := by decide +kernel
theorem dX10_feed_43 : decode cX10_feed 43 = .ok (.iload 5, 2) := by decide +kernel
theorem dX10_feed_45 : decode cX10_feed 45 = .ok (.invokevirtual 74, 3) := by decide +kernel
theorem dX10_feed_48 : decode cX10_feed 48 = .ok (.aload_n 0, 1) := by decide +kernel
theorem dX10_feed_49 : decode cX10_feed 49 = .ok (.getfield 71, 3) := by decide +kernel
theorem dX10_feed_52 : decode cX10_feed 52 = .ok (.ireturn, 1) := by decide +kernel
theorem dX10_byteAt_0 : decode cX10_byteAt 0 = .ok (.iload_n 1, 1) := by decide +kernel
theorem dX10_byteAt_1 : decode cX10_byteAt 1 = .ok (.aload_n 0, 1) := by decide +kernel
theorem dX10_byteAt_2 : decode cX10_byteAt 2 = .ok (.getfield 78, 3) := by decide +kernel
theorem dX10_byteAt_5 : decode cX10_byteAt 5 = .ok (.if_icmp .ge 12, 3) := by decide +kernel
theorem dX10_byteAt_8 : decode cX10_byteAt 8 = .ok (.aload_n 0, 1) := by decide +kernel
theorem dX10_byteAt_9 : decode cX10_byteAt 9 = .ok (.getfield 19, 3) := by decide +kernel
theorem dX10_byteAt_12 : decode cX10_byteAt 12 = .ok (.iload_n 1, 1) := by decide +kernel
theorem dX10_byteAt_13 : decode cX10_byteAt 13 = .ok (.iaload, 1) := by decide +kernel
theorem dX10_byteAt_14 : decode cX10_byteAt 14 = .ok (.goto 4, 3) := by decide +kernel
theorem dX10_byteAt_17 : decode cX10_byteAt 17 = .ok (.iconst (-1), 1) := by decide +kernel
theorem dX10_byteAt_18 : decode cX10_byteAt 18 = .ok (.ireturn, 1) := by decide +kernel
theorem dX10_isLetter_0 : decode cX10_isLetter 0 = .ok (.iload_n 0, 1) := by decide +kernel
theorem dX10_isLetter_1 : decode cX10_isLetter 1 = .ok (.bipush 97, 2) := by decide +kernel
theorem dX10_isLetter_3 : decode cX10_isLetter 3 = .ok (.if_icmp .lt 13, 3) := by decide +kernel
theorem dX10_isLetter_6 : decode cX10_isLetter 6 = .ok (.iload_n 0, 1) := by decide +kernel
theorem dX10_isLetter_7 : decode cX10_isLetter 7 = .ok (.bipush 122, 2) := by decide +kernel
theorem dX10_isLetter_9 : decode cX10_isLetter 9 = .ok (.if_icmp .gt 7, 3) := by decide +kernel
theorem dX10_isLetter_12 : decode cX10_isLetter 12 = .ok (.iconst 1, 1) := by decide +kernel
theorem dX10_isLetter_13 : decode cX10_isLetter 13 = .ok (.goto 4, 3) := by decide +kernel
theorem dX10_isLetter_16 : decode cX10_isLetter 16 = .ok (.iconst 0, 1) := by decide +kernel
theorem dX10_isLetter_17 : decode cX10_isLetter 17 = .ok (.ireturn, 1) := by decide +kernel
theorem dX10_isDigit_0 : decode cX10_isDigit 0 = .ok (.iload_n 0, 1) := by decide +kernel
theorem dX10_isDigit_1 : decode cX10_isDigit 1 = .ok (.bipush 48, 2) := by decide +kernel
theorem dX10_isDigit_3 : decode cX10_isDigit 3 = .ok (.if_icmp .lt 13, 3) := by decide +kernel
theorem dX10_isDigit_6 : decode cX10_isDigit 6 = .ok (.iload_n 0, 1) := by decide +kernel
theorem dX10_isDigit_7 : decode cX10_isDigit 7 = .ok (.bipush 57, 2) := by decide +kernel
theorem dX10_isDigit_9 : decode cX10_isDigit 9 = .ok (.if_icmp .gt 7, 3) := by decide +kernel
theorem dX10_isDigit_12 : decode cX10_isDigit 12 = .ok (.iconst 1, 1) := by decide +kernel
theorem dX10_isDigit_13 : decode cX10_isDigit 13 = .ok (.goto 4, 3) := by decide +kernel
theorem dX10_isDigit_16 : decode cX10_isDigit 16 = .ok (.iconst 0, 1) := by decide +kernel
theorem dX10_isDigit_17 : decode cX10_isDigit 17 = .ok (.ireturn, 1) := by decide +kernel
theorem dX10_readWord_0 : decode cX10_readWord 0 = .ok (.aload_n 0, 1) := by decide +kernel
theorem dX10_readWord_1 : decode cX10_readWord 1 = .ok (.aload_n 0, 1) := by decide +kernel
theorem dX10_readWord_2 : decode cX10_readWord 2 = .ok (.getfield 81, 3) := by decide +kernel
theorem dX10_readWord_5 : decode cX10_readWord 5 = .ok (.invokevirtual 84, 3) := by decide +kernel
theorem dX10_readWord_8 : decode cX10_readWord 8 = .ok (.invokestatic 88, 3) := by decide +kernel
theorem dX10_readWord_11 : decode cX10_readWord 11 = .ok (.ifCond .eq 16, 3) := by decide +kernel
theorem dX10_readWord_14 : decode cX10_readWord 14 = .ok (.aload_n 0, 1) := by decide +kernel
theorem dX10_readWord_15 : decode cX10_readWord 15 = .ok (.dup, 1) := by decide +kernel
theorem dX10_readWord_16 : decode cX10_readWord 16 = .ok (.getfield 81, 3) := by decide +kernel
theorem dX10_readWord_19 : decode cX10_readWord 19 = .ok (.iconst 1, 1) := by decide +kernel
theorem dX10_readWord_20 : decode cX10_readWord 20 = .ok (.iadd, 1) := by decide +kernel
theorem dX10_readWord_21 : decode cX10_readWord 21 = .ok (.putfield 81, 3) := by decide +kernel
theorem dX10_readWord_24 : decode cX10_readWord 24 = .ok (.goto (-24), 3) := by decide +kernel
theorem dX10_readWord_27 : decode cX10_readWord 27 = .ok (.aload_n 0, 1) := by decide +kernel
theorem dX10_readWord_28 : decode cX10_readWord 28 = .ok (.aload_n 0, 1) := by decide +kernel
theorem dX10_readWord_29 : decode cX10_readWord 29 = .ok (.getfield 81, 3) := by decide +kernel
theorem dX10_readWord_32 : decode cX10_readWord 32 = .ok (.aload_n 0, 1) := by decide +kernel
theorem dX10_readWord_33 : decode cX10_readWord 33 = .ok (.getfield 92, 3) := by decide +kernel
theorem dX10_readWord_36 : decode cX10_readWord 36 = .ok (.isub, 1) := by decide +kernel
theorem dX10_readWord_37 : decode cX10_readWord 37 = .ok (.bipush 8, 2) := by decide +kernel
theorem dX10_readWord_39 : decode cX10_readWord 39 = .ok (.if_icmp .le 7, 3) := by decide +kernel
theorem dX10_readWord_42 : decode cX10_readWord 42 = .ok (.iconst 1, 1) := by decide +kernel
theorem dX10_readWord_43 : decode cX10_readWord 43 = .ok (.goto 4, 3) := by decide +kernel
theorem dX10_readWord_46 : decode cX10_readWord 46 = .ok (.iconst 2, 1) := by decide +kernel
theorem dX10_readWord_47 : decode cX10_readWord 47 = .ok (.putfield 95, 3) := by decide +kernel
theorem dX10_readWord_50 : decode cX10_readWord 50 = .ok (.return_, 1) := by decide +kernel
theorem dX10_readNumber_0 : decode cX10_readNumber 0 = .ok (.aload_n 0, 1) := by decide +kernel
theorem dX10_readNumber_1 : decode cX10_readNumber 1 = .ok (.iconst 0, 1) := by decide +kernel
theorem dX10_readNumber_2 : decode cX10_readNumber 2 = .ok (.putfield 98, 3) := by decide +kernel
theorem dX10_readNumber_5 : decode cX10_readNumber 5 = .ok (.aload_n 0, 1) := by decide +kernel
theorem dX10_readNumber_6 : decode cX10_readNumber 6 = .ok (.aload_n 0, 1) := by decide +kernel
theorem dX10_readNumber_7 : decode cX10_readNumber 7 = .ok (.getfield 81, 3) := by decide +kernel
theorem dX10_readNumber_10 : decode cX10_readNumber 10 = .ok (.invokevirtual 84, 3) := by decide +kernel
theorem dX10_readNumber_13 : decode cX10_readNumber 13 = .ok (.invokestatic 101, 3) := by decide +kernel
theorem dX10_readNumber_16 : decode cX10_readNumber 16 = .ok (.ifCond .eq 59, 3) := by decide +kernel
theorem dX10_readNumber_19 : decode cX10_readNumber 19 = .ok (.aload_n 0, 1) := by decide +kernel
theorem dX10_readNumber_20 : decode cX10_readNumber 20 = .ok (.aload_n 0, 1) := by decide +kernel
theorem dX10_readNumber_21 : decode cX10_readNumber 21 = .ok (.getfield 81, 3) := by decide +kernel
theorem dX10_readNumber_24 : decode cX10_readNumber 24 = .ok (.aload_n 0, 1) := by decide +kernel
theorem dX10_readNumber_25 : decode cX10_readNumber 25 = .ok (.getfield 92, 3) := by decide +kernel
theorem dX10_readNumber_28 : decode cX10_readNumber 28 = .ok (.isub, 1) := by decide +kernel
theorem dX10_readNumber_29 : decode cX10_readNumber 29 = .ok (.iconst 2, 1) := by decide +kernel
theorem dX10_readNumber_30 : decode cX10_readNumber 30 = .ok (.if_icmp .ge 25, 3) := by decide +kernel
theorem dX10_readNumber_33 : decode cX10_readNumber 33 = .ok (.bipush 10, 2) := by decide +kernel
theorem dX10_readNumber_35 : decode cX10_readNumber 35 = .ok (.aload_n 0, 1) := by decide +kernel
theorem dX10_readNumber_36 : decode cX10_readNumber 36 = .ok (.getfield 98, 3) := by decide +kernel
theorem dX10_readNumber_39 : decode cX10_readNumber 39 = .ok (.imul, 1) := by decide +kernel
theorem dX10_readNumber_40 : decode cX10_readNumber 40 = .ok (.aload_n 0, 1) := by decide +kernel
theorem dX10_readNumber_41 : decode cX10_readNumber 41 = .ok (.aload_n 0, 1) := by decide +kernel
theorem dX10_readNumber_42 : decode cX10_readNumber 42 = .ok (.getfield 81, 3) := by decide +kernel
theorem dX10_readNumber_45 : decode cX10_readNumber 45 = .ok (.invokevirtual 84, 3) := by decide +kernel
theorem dX10_readNumber_48 : decode cX10_readNumber 48 = .ok (.iadd, 1) := by decide +kernel
theorem dX10_readNumber_49 : decode cX10_readNumber 49 = .ok (.bipush 48, 2) := by decide +kernel
theorem dX10_readNumber_51 : decode cX10_readNumber 51 = .ok (.isub, 1) := by decide +kernel
theorem dX10_readNumber_52 : decode cX10_readNumber 52 = .ok (.goto 7, 3) := by decide +kernel
theorem dX10_readNumber_55 : decode cX10_readNumber 55 = .ok (.aload_n 0, 1) := by decide +kernel
theorem dX10_readNumber_56 : decode cX10_readNumber 56 = .ok (.getfield 98, 3) := by decide +kernel
theorem dX10_readNumber_59 : decode cX10_readNumber 59 = .ok (.putfield 98, 3) := by decide +kernel
theorem dX10_readNumber_62 : decode cX10_readNumber 62 = .ok (.aload_n 0, 1) := by decide +kernel
theorem dX10_readNumber_63 : decode cX10_readNumber 63 = .ok (.dup, 1) := by decide +kernel
theorem dX10_readNumber_64 : decode cX10_readNumber 64 = .ok (.getfield 81, 3) := by decide +kernel
theorem dX10_readNumber_67 : decode cX10_readNumber 67 = .ok (.iconst 1, 1) := by decide +kernel
theorem dX10_readNumber_68 : decode cX10_readNumber 68 = .ok (.iadd, 1) := by decide +kernel
theorem dX10_readNumber_69 : decode cX10_readNumber 69 = .ok (.putfield 81, 3) := by decide +kernel
theorem dX10_readNumber_72 : decode cX10_readNumber 72 = .ok (.goto (-67), 3) := by decide +kernel
theorem dX10_readNumber_75 : decode cX10_readNumber 75 = .ok (.aload_n 0, 1) := by decide +kernel
theorem dX10_readNumber_76 : decode cX10_readNumber 76 = .ok (.aload_n 0, 1) := by decide +kernel
theorem dX10_readNumber_77 : decode cX10_readNumber 77 = .ok (.getfield 81, 3) := by decide +kernel
theorem dX10_readNumber_80 : decode cX10_readNumber 80 = .ok (.aload_n 0, 1) := by decide +kernel
theorem dX10_readNumber_81 : decode cX10_readNumber 81 = .ok (.getfield 92, 3) := by decide +kernel
theorem dX10_readNumber_84 : decode cX10_readNumber 84 = .ok (.isub, 1) := by decide +kernel
theorem dX10_readNumber_85 : decode cX10_readNumber 85 = .ok (.iconst 2, 1) := by decide +kernel
theorem dX10_readNumber_86 : decode cX10_readNumber 86 = .ok (.if_icmp .le 7, 3) := by decide +kernel
theorem dX10_readNumber_89 : decode cX10_readNumber 89 = .ok (.iconst 1, 1) := by decide +kernel
theorem dX10_readNumber_90 : decode cX10_readNumber 90 = .ok (.goto 4, 3) := by decide +kernel
theorem dX10_readNumber_93 : decode cX10_readNumber 93 = .ok (.iconst 3, 1) := by decide +kernel
theorem dX10_readNumber_94 : decode cX10_readNumber 94 = .ok (.putfield 95, 3) := by decide +kernel
theorem dX10_readNumber_97 : decode cX10_readNumber 97 = .ok (.return_, 1) := by decide +kernel
theorem dX10_advance_0 : decode cX10_advance 0 = .ok (.aload_n 0, 1) := by decide +kernel
theorem dX10_advance_1 : decode cX10_advance 1 = .ok (.aload_n 0, 1) := by decide +kernel
theorem dX10_advance_2 : decode cX10_advance 2 = .ok (.getfield 81, 3) := by decide +kernel
theorem dX10_advance_5 : decode cX10_advance 5 = .ok (.invokevirtual 84, 3) := by decide +kernel
theorem dX10_advance_8 : decode cX10_advance 8 = .ok (.bipush 32, 2) := by decide +kernel
theorem dX10_advance_10 : decode cX10_advance 10 = .ok (.if_icmp .eq 16, 3) := by decide +kernel
theorem dX10_advance_13 : decode cX10_advance 13 = .ok (.aload_n 0, 1) := by decide +kernel
theorem dX10_advance_14 : decode cX10_advance 14 = .ok (.aload_n 0, 1) := by decide +kernel
theorem dX10_advance_15 : decode cX10_advance 15 = .ok (.getfield 81, 3) := by decide +kernel
theorem dX10_advance_18 : decode cX10_advance 18 = .ok (.invokevirtual 84, 3) := by decide +kernel
theorem dX10_advance_21 : decode cX10_advance 21 = .ok (.bipush 10, 2) := by decide +kernel
theorem dX10_advance_23 : decode cX10_advance 23 = .ok (.if_icmp .ne 16, 3) := by decide +kernel
theorem dX10_advance_26 : decode cX10_advance 26 = .ok (.aload_n 0, 1) := by decide +kernel
theorem dX10_advance_27 : decode cX10_advance 27 = .ok (.dup, 1) := by decide +kernel
theorem dX10_advance_28 : decode cX10_advance 28 = .ok (.getfield 81, 3) := by decide +kernel
theorem dX10_advance_31 : decode cX10_advance 31 = .ok (.iconst 1, 1) := by decide +kernel
theorem dX10_advance_32 : decode cX10_advance 32 = .ok (.iadd, 1) := by decide +kernel
theorem dX10_advance_33 : decode cX10_advance 33 = .ok (.putfield 81, 3) := by decide +kernel
theorem dX10_advance_36 : decode cX10_advance 36 = .ok (.goto (-36), 3) := by decide +kernel
theorem dX10_advance_39 : decode cX10_advance 39 = .ok (.aload_n 0, 1) := by decide +kernel
theorem dX10_advance_40 : decode cX10_advance 40 = .ok (.aload_n 0, 1) := by decide +kernel
theorem dX10_advance_41 : decode cX10_advance 41 = .ok (.getfield 81, 3) := by decide +kernel
theorem dX10_advance_44 : decode cX10_advance 44 = .ok (.putfield 92, 3) := by decide +kernel
theorem dX10_advance_47 : decode cX10_advance 47 = .ok (.aload_n 0, 1) := by decide +kernel
theorem dX10_advance_48 : decode cX10_advance 48 = .ok (.aload_n 0, 1) := by decide +kernel
theorem dX10_advance_49 : decode cX10_advance 49 = .ok (.getfield 81, 3) := by decide +kernel
theorem dX10_advance_52 : decode cX10_advance 52 = .ok (.invokevirtual 84, 3) := by decide +kernel
theorem dX10_advance_55 : decode cX10_advance 55 = .ok (.istore_n 1, 1) := by decide +kernel
theorem dX10_advance_56 : decode cX10_advance 56 = .ok (.iload_n 1, 1) := by decide +kernel
theorem dX10_advance_57 : decode cX10_advance 57 = .ok (.iconst (-1), 1) := by decide +kernel
theorem dX10_advance_58 : decode cX10_advance 58 = .ok (.if_icmp .ne 11, 3) := by decide +kernel
theorem dX10_advance_61 : decode cX10_advance 61 = .ok (.aload_n 0, 1) := by decide +kernel
theorem dX10_advance_62 : decode cX10_advance 62 = .ok (.iconst 0, 1) := by decide +kernel
theorem dX10_advance_63 : decode cX10_advance 63 = .ok (.putfield 95, 3) := by decide +kernel
theorem dX10_advance_66 : decode cX10_advance 66 = .ok (.goto 56, 3) := by decide +kernel
theorem dX10_advance_69 : decode cX10_advance 69 = .ok (.iload_n 1, 1) := by decide +kernel
theorem dX10_advance_70 : decode cX10_advance 70 = .ok (.invokestatic 88, 3) := by decide +kernel
theorem dX10_advance_73 : decode cX10_advance 73 = .ok (.ifCond .eq 10, 3) := by decide +kernel
theorem dX10_advance_76 : decode cX10_advance 76 = .ok (.aload_n 0, 1) := by decide +kernel
theorem dX10_advance_77 : decode cX10_advance 77 = .ok (.invokevirtual 104, 3) := by decide +kernel
theorem dX10_advance_80 : decode cX10_advance 80 = .ok (.goto 42, 3) := by decide +kernel
theorem dX10_advance_83 : decode cX10_advance 83 = .ok (.iload_n 1, 1) := by decide +kernel
theorem dX10_advance_84 : decode cX10_advance 84 = .ok (.invokestatic 101, 3) := by decide +kernel
theorem dX10_advance_87 : decode cX10_advance 87 = .ok (.ifCond .eq 10, 3) := by decide +kernel
theorem dX10_advance_90 : decode cX10_advance 90 = .ok (.aload_n 0, 1) := by decide +kernel
theorem dX10_advance_91 : decode cX10_advance 91 = .ok (.invokevirtual 107, 3) := by decide +kernel
theorem dX10_advance_94 : decode cX10_advance 94 = .ok (.goto 28, 3) := by decide +kernel
theorem dX10_advance_97 : decode cX10_advance 97 = .ok (.aload_n 0, 1) := by decide +kernel
theorem dX10_advance_98 : decode cX10_advance 98 = .ok (.dup, 1) := by decide +kernel
theorem dX10_advance_99 : decode cX10_advance 99 = .ok (.getfield 81, 3) := by decide +kernel
theorem dX10_advance_102 : decode cX10_advance 102 = .ok (.iconst 1, 1) := by decide +kernel
theorem dX10_advance_103 : decode cX10_advance 103 = .ok (.iadd, 1) := by decide +kernel
theorem dX10_advance_104 : decode cX10_advance 104 = .ok (.putfield 81, 3) := by decide +kernel
theorem dX10_advance_107 : decode cX10_advance 107 = .ok (.aload_n 0, 1) := by decide +kernel
theorem dX10_advance_108 : decode cX10_advance 108 = .ok (.iload_n 1, 1) := by decide +kernel
theorem dX10_advance_109 : decode cX10_advance 109 = .ok (.bipush 59, 2) := by decide +kernel
theorem dX10_advance_111 : decode cX10_advance 111 = .ok (.if_icmp .ne 7, 3) := by decide +kernel
theorem dX10_advance_114 : decode cX10_advance 114 = .ok (.iconst 4, 1) := by decide +kernel
theorem dX10_advance_115 : decode cX10_advance 115 = .ok (.goto 4, 3) := by decide +kernel
theorem dX10_advance_118 : decode cX10_advance 118 = .ok (.iconst 1, 1) := by decide +kernel
theorem dX10_advance_119 : decode cX10_advance 119 = .ok (.putfield 95, 3) := by decide +kernel
theorem dX10_advance_122 : decode cX10_advance 122 = .ok (.iconst 1, 1) := by decide +kernel
theorem dX10_advance_123 : decode cX10_advance 123 = .ok (.ireturn, 1) := by decide +kernel
theorem dX10_isWord_0 : decode cX10_isWord 0 = .ok (.aload_n 0, 1) := by decide +kernel
theorem dX10_isWord_1 : decode cX10_isWord 1 = .ok (.getfield 95, 3) := by decide +kernel
theorem dX10_isWord_4 : decode cX10_isWord 4 = .ok (.iconst 2, 1) := by decide +kernel
theorem dX10_isWord_5 : decode cX10_isWord 5 = .ok (.if_icmp .ne 19, 3) := by decide +kernel
theorem dX10_isWord_8 : decode cX10_isWord 8 = .ok (.aload_n 0, 1) := by decide +kernel
theorem dX10_isWord_9 : decode cX10_isWord 9 = .ok (.getfield 81, 3) := by decide +kernel
theorem dX10_isWord_12 : decode cX10_isWord 12 = .ok (.aload_n 0, 1) := by decide +kernel
theorem dX10_isWord_13 : decode cX10_isWord 13 = .ok (.getfield 92, 3) := by decide +kernel
theorem dX10_isWord_16 : decode cX10_isWord 16 = .ok (.isub, 1) := by decide +kernel
theorem dX10_isWord_17 : decode cX10_isWord 17 = .ok (.aload_n 1, 1) := by decide +kernel
theorem dX10_isWord_18 : decode cX10_isWord 18 = .ok (.invokevirtual 110, 3) := by decide +kernel
theorem dX10_isWord_21 : decode cX10_isWord 21 = .ok (.if_icmp .eq 5, 3) := by decide +kernel
theorem dX10_isWord_24 : decode cX10_isWord 24 = .ok (.iconst 0, 1) := by decide +kernel
theorem dX10_isWord_25 : decode cX10_isWord 25 = .ok (.ireturn, 1) := by decide +kernel
theorem dX10_isWord_26 : decode cX10_isWord 26 = .ok (.iconst 0, 1) := by decide +kernel
theorem dX10_isWord_27 : decode cX10_isWord 27 = .ok (.istore_n 2, 1) := by decide +kernel
theorem dX10_isWord_28 : decode cX10_isWord 28 = .ok (.iload_n 2, 1) := by decide +kernel
theorem dX10_isWord_29 : decode cX10_isWord 29 = .ok (.aload_n 1, 1) := by decide +kernel
theorem dX10_isWord_30 : decode cX10_isWord 30 = .ok (.invokevirtual 110, 3) := by decide +kernel
theorem dX10_isWord_33 : decode cX10_isWord 33 = .ok (.if_icmp .ge 30, 3) := by decide +kernel
theorem dX10_isWord_36 : decode cX10_isWord 36 = .ok (.aload_n 0, 1) := by decide +kernel
theorem dX10_isWord_37 : decode cX10_isWord 37 = .ok (.getfield 19, 3) := by decide +kernel
theorem dX10_isWord_40 : decode cX10_isWord 40 = .ok (.aload_n 0, 1) := by decide +kernel
theorem dX10_isWord_41 : decode cX10_isWord 41 = .ok (.getfield 92, 3) := by decide +kernel
theorem dX10_isWord_44 : decode cX10_isWord 44 = .ok (.iload_n 2, 1) := by decide +kernel
theorem dX10_isWord_45 : decode cX10_isWord 45 = .ok (.iadd, 1) := by decide +kernel
theorem dX10_isWord_46 : decode cX10_isWord 46 = .ok (.iaload, 1) := by decide +kernel
theorem dX10_isWord_47 : decode cX10_isWord 47 = .ok (.aload_n 1, 1) := by decide +kernel
theorem dX10_isWord_48 : decode cX10_isWord 48 = .ok (.iload_n 2, 1) := by decide +kernel
theorem dX10_isWord_49 : decode cX10_isWord 49 = .ok (.invokevirtual 115, 3) := by decide +kernel
theorem dX10_isWord_52 : decode cX10_isWord 52 = .ok (.if_icmp .eq 5, 3) := by decide +kernel
theorem dX10_isWord_55 : decode cX10_isWord 55 = .ok (.iconst 0, 1) := by decide +kernel
theorem dX10_isWord_56 : decode cX10_isWord 56 = .ok (.ireturn, 1) := by decide +kernel
theorem dX10_isWord_57 : decode cX10_isWord 57 = .ok (.iinc 2 1, 3) := by decide +kernel
theorem dX10_isWord_60 : decode cX10_isWord 60 = .ok (.goto (-32), 3) := by decide +kernel
theorem dX10_isWord_63 : decode cX10_isWord 63 = .ok (.iconst 1, 1) := by decide +kernel
theorem dX10_isWord_64 : decode cX10_isWord 64 = .ok (.ireturn, 1) := by decide +kernel
theorem dX10_fail_0 : decode cX10_fail 0 = .ok (.aload_n 0, 1) := by decide +kernel
theorem dX10_fail_1 : decode cX10_fail 1 = .ok (.aload_n 0, 1) := by decide +kernel
theorem dX10_fail_2 : decode cX10_fail 2 = .ok (.getfield 95, 3) := by decide +kernel
theorem dX10_fail_5 : decode cX10_fail 5 = .ok (.iconst 1, 1) := by decide +kernel
theorem dX10_fail_6 : decode cX10_fail 6 = .ok (.if_icmp .ne 7, 3) := by decide +kernel
theorem dX10_fail_9 : decode cX10_fail 9 = .ok (.iconst 1, 1) := by decide +kernel
theorem dX10_fail_10 : decode cX10_fail 10 = .ok (.goto 4, 3) := by decide +kernel
theorem dX10_fail_13 : decode cX10_fail 13 = .ok (.iload_n 1, 1) := by decide +kernel
theorem dX10_fail_14 : decode cX10_fail 14 = .ok (.putfield 119, 3) := by decide +kernel
theorem dX10_fail_17 : decode cX10_fail 17 = .ok (.aload_n 0, 1) := by decide +kernel
theorem dX10_fail_18 : decode cX10_fail 18 = .ok (.aload_n 0, 1) := by decide +kernel
theorem dX10_fail_19 : decode cX10_fail 19 = .ok (.getfield 92, 3) := by decide +kernel
theorem dX10_fail_22 : decode cX10_fail 22 = .ok (.putfield 122, 3) := by decide +kernel
theorem dX10_fail_25 : decode cX10_fail 25 = .ok (.iconst 0, 1) := by decide +kernel
theorem dX10_fail_26 : decode cX10_fail 26 = .ok (.ireturn, 1) := by decide +kernel
theorem dX10_number_0 : decode cX10_number 0 = .ok (.aload_n 0, 1) := by decide +kernel
theorem dX10_number_1 : decode cX10_number 1 = .ok (.getfield 95, 3) := by decide +kernel
theorem dX10_number_4 : decode cX10_number 4 = .ok (.iconst 3, 1) := by decide +kernel
theorem dX10_number_5 : decode cX10_number 5 = .ok (.if_icmp .eq 9, 3) := by decide +kernel
theorem dX10_number_8 : decode cX10_number 8 = .ok (.aload_n 0, 1) := by decide +kernel
theorem dX10_number_9 : decode cX10_number 9 = .ok (.iconst 2, 1) := by decide +kernel
theorem dX10_number_10 : decode cX10_number 10 = .ok (.invokevirtual 125, 3) := by decide +kernel
theorem dX10_number_13 : decode cX10_number 13 = .ok (.ireturn, 1) := by decide +kernel
theorem dX10_number_14 : decode cX10_number 14 = .ok (.aload_n 0, 1) := by decide +kernel
theorem dX10_number_15 : decode cX10_number 15 = .ok (.getfield 98, 3) := by decide +kernel
theorem dX10_number_18 : decode cX10_number 18 = .ok (.iload_n 1, 1) := by decide +kernel
theorem dX10_number_19 : decode cX10_number 19 = .ok (.iload_n 2, 1) := by decide +kernel
theorem dX10_number_20 : decode cX10_number 20 = .ok (.invokestatic 128, 3) := by decide +kernel
theorem dX10_number_23 : decode cX10_number 23 = .ok (.ifCond .ne 9, 3) := by decide +kernel
theorem dX10_number_26 : decode cX10_number 26 = .ok (.aload_n 0, 1) := by decide +kernel
theorem dX10_number_27 : decode cX10_number 27 = .ok (.iconst 3, 1) := by decide +kernel
theorem dX10_number_28 : decode cX10_number 28 = .ok (.invokevirtual 125, 3) := by decide +kernel
theorem dX10_number_31 : decode cX10_number 31 = .ok (.ireturn, 1) := by decide +kernel
theorem dX10_number_32 : decode cX10_number 32 = .ok (.aload_n 0, 1) := by decide +kernel
theorem dX10_number_33 : decode cX10_number 33 = .ok (.aload_n 0, 1) := by decide +kernel
theorem dX10_number_34 : decode cX10_number 34 = .ok (.getfield 98, 3) := by decide +kernel
theorem dX10_number_37 : decode cX10_number 37 = .ok (.putfield 132, 3) := by decide +kernel
theorem dX10_number_40 : decode cX10_number 40 = .ok (.aload_n 0, 1) := by decide +kernel
theorem dX10_number_41 : decode cX10_number 41 = .ok (.invokevirtual 135, 3) := by decide +kernel
theorem dX10_number_44 : decode cX10_number 44 = .ok (.ireturn, 1) := by decide +kernel
theorem dX10_closed_0 : decode cX10_closed 0 = .ok (.aload_n 0, 1) := by decide +kernel
theorem dX10_closed_1 : decode cX10_closed 1 = .ok (.getfield 95, 3) := by decide +kernel
theorem dX10_closed_4 : decode cX10_closed 4 = .ok (.iconst 4, 1) := by decide +kernel
theorem dX10_closed_5 : decode cX10_closed 5 = .ok (.if_icmp .eq 9, 3) := by decide +kernel
theorem dX10_closed_8 : decode cX10_closed 8 = .ok (.aload_n 0, 1) := by decide +kernel
theorem dX10_closed_9 : decode cX10_closed 9 = .ok (.iconst 2, 1) := by decide +kernel
theorem dX10_closed_10 : decode cX10_closed 10 = .ok (.invokevirtual 125, 3) := by decide +kernel
theorem dX10_closed_13 : decode cX10_closed 13 = .ok (.ireturn, 1) := by decide +kernel
theorem dX10_closed_14 : decode cX10_closed 14 = .ok (.aload_n 0, 1) := by decide +kernel
theorem dX10_closed_15 : decode cX10_closed 15 = .ok (.invokevirtual 135, 3) := by decide +kernel
theorem dX10_closed_18 : decode cX10_closed 18 = .ok (.ireturn, 1) := by decide +kernel
theorem dX10_degreesStatement_0 : decode cX10_degreesStatement 0 = .ok (.aload_n 0, 1) := by decide +kernel
theorem dX10_degreesStatement_1 : decode cX10_degreesStatement 1 = .ok (.invokevirtual 135, 3) := by decide +kernel
theorem dX10_degreesStatement_4 : decode cX10_degreesStatement 4 = .ok (.pop, 1) := by decide +kernel
theorem dX10_degreesStatement_5 : decode cX10_degreesStatement 5 = .ok (.iconst 0, 1) := by decide +kernel
theorem dX10_degreesStatement_6 : decode cX10_degreesStatement 6 = .ok (.istore_n 1, 1) := by decide +kernel
theorem dX10_degreesStatement_7 : decode cX10_degreesStatement 7 = .ok (.iconst 0, 1) := by decide +kernel
theorem dX10_degreesStatement_8 : decode cX10_degreesStatement 8 = .ok (.istore_n 2, 1) := by decide +kernel
theorem dX10_degreesStatement_9 : decode cX10_degreesStatement 9 = .ok (.iload_n 1, 1) := by decide +kernel
theorem dX10_degreesStatement_10 : decode cX10_degreesStatement 10 = .ok (.ifCond .eq 11, 3) := by decide +kernel
theorem dX10_degreesStatement_13 : decode cX10_degreesStatement 13 = .ok (.aload_n 0, 1) := by decide +kernel
theorem dX10_degreesStatement_14 : decode cX10_degreesStatement 14 = .ok (.getfield 95, 3) := by decide +kernel
theorem dX10_degreesStatement_17 : decode cX10_degreesStatement 17 = .ok (.iconst 3, 1) := by decide +kernel
theorem dX10_degreesStatement_18 : decode cX10_degreesStatement 18 = .ok (.if_icmp .ne 71, 3) := by decide +kernel
theorem dX10_degreesStatement_21 : decode cX10_degreesStatement 21 = .ok (.aload_n 0, 1) := by decide +kernel
theorem dX10_degreesStatement_22 : decode cX10_degreesStatement 22 = .ok (.getfield 95, 3) := by decide +kernel
theorem dX10_degreesStatement_25 : decode cX10_degreesStatement 25 = .ok (.iconst 3, 1) := by decide +kernel
theorem dX10_degreesStatement_26 : decode cX10_degreesStatement 26 = .ok (.if_icmp .ne 28, 3) := by decide +kernel
theorem dX10_degreesStatement_29 : decode cX10_degreesStatement 29 = .ok (.aload_n 0, 1) := by decide +kernel
theorem dX10_degreesStatement_30 : decode cX10_degreesStatement 30 = .ok (.getfield 98, 3) := by decide +kernel
theorem dX10_degreesStatement_33 : decode cX10_degreesStatement 33 = .ok (.iconst 0, 1) := by decide +kernel
theorem dX10_degreesStatement_34 : decode cX10_degreesStatement 34 = .ok (.bipush 32, 2) := by decide +kernel
theorem dX10_degreesStatement_36 : decode cX10_degreesStatement 36 = .ok (.invokestatic 128, 3) := by decide +kernel
theorem dX10_degreesStatement_39 : decode cX10_degreesStatement 39 = .ok (.ifCond .eq 15, 3) := by decide +kernel
theorem dX10_degreesStatement_42 : decode cX10_degreesStatement 42 = .ok (.iload_n 1, 1) := by decide +kernel
theorem dX10_degreesStatement_43 : decode cX10_degreesStatement 43 = .ok (.bipush 8, 2) := by decide +kernel
theorem dX10_degreesStatement_45 : decode cX10_degreesStatement 45 = .ok (.if_icmp .ne 9, 3) := by decide +kernel
theorem dX10_degreesStatement_48 : decode cX10_degreesStatement 48 = .ok (.aload_n 0, 1) := by decide +kernel
theorem dX10_degreesStatement_49 : decode cX10_degreesStatement 49 = .ok (.iconst 5, 1) := by decide +kernel
theorem dX10_degreesStatement_50 : decode cX10_degreesStatement 50 = .ok (.invokevirtual 125, 3) := by decide +kernel
theorem dX10_degreesStatement_53 : decode cX10_degreesStatement 53 = .ok (.ireturn, 1) := by decide +kernel
theorem dX10_degreesStatement_54 : decode cX10_degreesStatement 54 = .ok (.aload_n 0, 1) := by decide +kernel
theorem dX10_degreesStatement_55 : decode cX10_degreesStatement 55 = .ok (.iconst 0, 1) := by decide +kernel
theorem dX10_degreesStatement_56 : decode cX10_degreesStatement 56 = .ok (.bipush 32, 2) := by decide +kernel
theorem dX10_degreesStatement_58 : decode cX10_degreesStatement 58 = .ok (.invokevirtual 139, 3) := by decide +kernel
theorem dX10_degreesStatement_61 : decode cX10_degreesStatement 61 = .ok (.ifCond .ne 5, 3) := by decide +kernel
theorem dX10_degreesStatement_64 : decode cX10_degreesStatement 64 = .ok (.iconst 0, 1) := by decide +kernel
theorem dX10_degreesStatement_65 : decode cX10_degreesStatement 65 = .ok (.ireturn, 1) := by decide +kernel
theorem dX10_degreesStatement_66 : decode cX10_degreesStatement 66 = .ok (.aload_n 0, 1) := by decide +kernel
theorem dX10_degreesStatement_67 : decode cX10_degreesStatement 67 = .ok (.getfield 26, 3) := by decide +kernel
theorem dX10_degreesStatement_70 : decode cX10_degreesStatement 70 = .ok (.iload_n 1, 1) := by decide +kernel
theorem dX10_degreesStatement_71 : decode cX10_degreesStatement 71 = .ok (.aload_n 0, 1) := by decide +kernel
theorem dX10_degreesStatement_72 : decode cX10_degreesStatement 72 = .ok (.getfield 132, 3) := by decide +kernel
theorem dX10_degreesStatement_75 : decode cX10_degreesStatement 75 = .ok (.iastore, 1) := by decide +kernel
theorem dX10_degreesStatement_76 : decode cX10_degreesStatement 76 = .ok (.iload_n 2, 1) := by decide +kernel
theorem dX10_degreesStatement_77 : decode cX10_degreesStatement 77 = .ok (.aload_n 0, 1) := by decide +kernel
theorem dX10_degreesStatement_78 : decode cX10_degreesStatement 78 = .ok (.getfield 132, 3) := by decide +kernel
theorem dX10_degreesStatement_81 : decode cX10_degreesStatement 81 = .ok (.iadd, 1) := by decide +kernel
theorem dX10_degreesStatement_82 : decode cX10_degreesStatement 82 = .ok (.istore_n 2, 1) := by decide +kernel
theorem dX10_degreesStatement_83 : decode cX10_degreesStatement 83 = .ok (.iinc 1 1, 3) := by decide +kernel
theorem dX10_degreesStatement_86 : decode cX10_degreesStatement 86 = .ok (.goto (-77), 3) := by decide +kernel
theorem dX10_degreesStatement_89 : decode cX10_degreesStatement 89 = .ok (.aload_n 0, 1) := by decide +kernel
theorem dX10_degreesStatement_90 : decode cX10_degreesStatement 90 = .ok (.getfield 95, 3) := by decide +kernel
theorem dX10_degreesStatement_93 : decode cX10_degreesStatement 93 = .ok (.iconst 4, 1) := by decide +kernel
theorem dX10_degreesStatement_94 : decode cX10_degreesStatement 94 = .ok (.if_icmp .ne 22, 3) := by decide +kernel
theorem dX10_degreesStatement_97 : decode cX10_degreesStatement 97 = .ok (.iload_n 2, 1) := by decide +kernel
theorem dX10_degreesStatement_98 : decode cX10_degreesStatement 98 = .ok (.iconst 2, 1) := by decide +kernel
theorem dX10_degreesStatement_99 : decode cX10_degreesStatement 99 = .ok (.irem, 1) := by decide +kernel
theorem dX10_degreesStatement_100 : decode cX10_degreesStatement 100 = .ok (.iconst 1, 1) := by decide +kernel
theorem dX10_degreesStatement_101 : decode cX10_degreesStatement 101 = .ok (.if_icmp .eq 9, 3) := by decide +kernel
theorem dX10_degreesStatement_104 : decode cX10_degreesStatement 104 = .ok (.iload_n 2, 1) := by decide +kernel
theorem dX10_degreesStatement_105 : decode cX10_degreesStatement 105 = .ok (.bipush 32, 2) := by decide +kernel
theorem dX10_degreesStatement_107 : decode cX10_degreesStatement 107 = .ok (.if_icmp .le 9, 3) := by decide +kernel
theorem dX10_degreesStatement_110 : decode cX10_degreesStatement 110 = .ok (.aload_n 0, 1) := by decide +kernel
theorem dX10_degreesStatement_111 : decode cX10_degreesStatement 111 = .ok (.iconst 4, 1) := by decide +kernel
theorem dX10_degreesStatement_112 : decode cX10_degreesStatement 112 = .ok (.invokevirtual 125, 3) := by decide +kernel
theorem dX10_degreesStatement_115 : decode cX10_degreesStatement 115 = .ok (.ireturn, 1) := by decide +kernel
theorem dX10_degreesStatement_116 : decode cX10_degreesStatement 116 = .ok (.aload_n 0, 1) := by decide +kernel
theorem dX10_degreesStatement_117 : decode cX10_degreesStatement 117 = .ok (.getfield 7, 3) := by decide +kernel
theorem dX10_degreesStatement_120 : decode cX10_degreesStatement 120 = .ok (.iconst 0, 1) := by decide +kernel
theorem dX10_degreesStatement_121 : decode cX10_degreesStatement 121 = .ok (.iload_n 1, 1) := by decide +kernel
theorem dX10_degreesStatement_122 : decode cX10_degreesStatement 122 = .ok (.iastore, 1) := by decide +kernel
theorem dX10_degreesStatement_123 : decode cX10_degreesStatement 123 = .ok (.iconst 0, 1) := by decide +kernel
theorem dX10_degreesStatement_124 : decode cX10_degreesStatement 124 = .ok (.istore_n 3, 1) := by decide +kernel
theorem dX10_degreesStatement_125 : decode cX10_degreesStatement 125 = .ok (.iload_n 3, 1) := by decide +kernel
theorem dX10_degreesStatement_126 : decode cX10_degreesStatement 126 = .ok (.iload_n 1, 1) := by decide +kernel
theorem dX10_degreesStatement_127 : decode cX10_degreesStatement 127 = .ok (.if_icmp .ge 21, 3) := by decide +kernel
theorem dX10_degreesStatement_130 : decode cX10_degreesStatement 130 = .ok (.aload_n 0, 1) := by decide +kernel
theorem dX10_degreesStatement_131 : decode cX10_degreesStatement 131 = .ok (.getfield 38, 3) := by decide +kernel
theorem dX10_degreesStatement_134 : decode cX10_degreesStatement 134 = .ok (.iload_n 3, 1) := by decide +kernel
theorem dX10_degreesStatement_135 : decode cX10_degreesStatement 135 = .ok (.aload_n 0, 1) := by decide +kernel
theorem dX10_degreesStatement_136 : decode cX10_degreesStatement 136 = .ok (.getfield 26, 3) := by decide +kernel
theorem dX10_degreesStatement_139 : decode cX10_degreesStatement 139 = .ok (.iload_n 3, 1) := by decide +kernel
theorem dX10_degreesStatement_140 : decode cX10_degreesStatement 140 = .ok (.iaload, 1) := by decide +kernel
theorem dX10_degreesStatement_141 : decode cX10_degreesStatement 141 = .ok (.iastore, 1) := by decide +kernel
theorem dX10_degreesStatement_142 : decode cX10_degreesStatement 142 = .ok (.iinc 3 1, 3) := by decide +kernel
theorem dX10_degreesStatement_145 : decode cX10_degreesStatement 145 = .ok (.goto (-20), 3) := by decide +kernel
theorem dX10_degreesStatement_148 : decode cX10_degreesStatement 148 = .ok (.aload_n 0, 1) := by decide +kernel
theorem dX10_degreesStatement_149 : decode cX10_degreesStatement 149 = .ok (.invokevirtual 143, 3) := by decide +kernel
theorem dX10_degreesStatement_152 : decode cX10_degreesStatement 152 = .ok (.iconst 1, 1) := by decide +kernel
theorem dX10_degreesStatement_153 : decode cX10_degreesStatement 153 = .ok (.ireturn, 1) := by decide +kernel
theorem dX10_verticesStatement_0 : decode cX10_verticesStatement 0 = .ok (.aload_n 0, 1) := by decide +kernel
theorem dX10_verticesStatement_1 : decode cX10_verticesStatement 1 = .ok (.invokevirtual 135, 3) := by decide +kernel
theorem dX10_verticesStatement_4 : decode cX10_verticesStatement 4 = .ok (.pop, 1) := by decide +kernel
theorem dX10_verticesStatement_5 : decode cX10_verticesStatement 5 = .ok (.aload_n 0, 1) := by decide +kernel
theorem dX10_verticesStatement_6 : decode cX10_verticesStatement 6 = .ok (.iconst 1, 1) := by decide +kernel
theorem dX10_verticesStatement_7 : decode cX10_verticesStatement 7 = .ok (.bipush 8, 2) := by decide +kernel
theorem dX10_verticesStatement_9 : decode cX10_verticesStatement 9 = .ok (.invokevirtual 139, 3) := by decide +kernel
theorem dX10_verticesStatement_12 : decode cX10_verticesStatement 12 = .ok (.ifCond .ne 5, 3) := by decide +kernel
theorem dX10_verticesStatement_15 : decode cX10_verticesStatement 15 = .ok (.iconst 0, 1) := by decide +kernel
theorem dX10_verticesStatement_16 : decode cX10_verticesStatement 16 = .ok (.ireturn, 1) := by decide +kernel
theorem dX10_verticesStatement_17 : decode cX10_verticesStatement 17 = .ok (.aload_n 0, 1) := by decide +kernel
theorem dX10_verticesStatement_18 : decode cX10_verticesStatement 18 = .ok (.getfield 7, 3) := by decide +kernel
theorem dX10_verticesStatement_21 : decode cX10_verticesStatement 21 = .ok (.iconst 0, 1) := by decide +kernel
theorem dX10_verticesStatement_22 : decode cX10_verticesStatement 22 = .ok (.aload_n 0, 1) := by decide +kernel
theorem dX10_verticesStatement_23 : decode cX10_verticesStatement 23 = .ok (.getfield 132, 3) := by decide +kernel
theorem dX10_verticesStatement_26 : decode cX10_verticesStatement 26 = .ok (.iastore, 1) := by decide +kernel
theorem dX10_verticesStatement_27 : decode cX10_verticesStatement 27 = .ok (.iconst 1, 1) := by decide +kernel
theorem dX10_verticesStatement_28 : decode cX10_verticesStatement 28 = .ok (.ireturn, 1) := by decide +kernel
theorem dX10_edgeStatement_0 : decode cX10_edgeStatement 0 = .ok (.aload_n 0, 1) := by decide +kernel
theorem dX10_edgeStatement_1 : decode cX10_edgeStatement 1 = .ok (.invokevirtual 135, 3) := by decide +kernel
theorem dX10_edgeStatement_4 : decode cX10_edgeStatement 4 = .ok (.pop, 1) := by decide +kernel
theorem dX10_edgeStatement_5 : decode cX10_edgeStatement 5 = .ok (.aload_n 0, 1) := by decide +kernel
theorem dX10_edgeStatement_6 : decode cX10_edgeStatement 6 = .ok (.iconst 0, 1) := by decide +kernel
theorem dX10_edgeStatement_7 : decode cX10_edgeStatement 7 = .ok (.aload_n 0, 1) := by decide +kernel
theorem dX10_edgeStatement_8 : decode cX10_edgeStatement 8 = .ok (.getfield 7, 3) := by decide +kernel
theorem dX10_edgeStatement_11 : decode cX10_edgeStatement 11 = .ok (.iconst 0, 1) := by decide +kernel
theorem dX10_edgeStatement_12 : decode cX10_edgeStatement 12 = .ok (.iaload, 1) := by decide +kernel
theorem dX10_edgeStatement_13 : decode cX10_edgeStatement 13 = .ok (.iconst 1, 1) := by decide +kernel
theorem dX10_edgeStatement_14 : decode cX10_edgeStatement 14 = .ok (.isub, 1) := by decide +kernel
theorem dX10_edgeStatement_15 : decode cX10_edgeStatement 15 = .ok (.invokevirtual 139, 3) := by decide +kernel
theorem dX10_edgeStatement_18 : decode cX10_edgeStatement 18 = .ok (.ifCond .ne 5, 3) := by decide +kernel
theorem dX10_edgeStatement_21 : decode cX10_edgeStatement 21 = .ok (.iconst 0, 1) := by decide +kernel
theorem dX10_edgeStatement_22 : decode cX10_edgeStatement 22 = .ok (.ireturn, 1) := by decide +kernel
theorem dX10_edgeStatement_23 : decode cX10_edgeStatement 23 = .ok (.aload_n 0, 1) := by decide +kernel
theorem dX10_edgeStatement_24 : decode cX10_edgeStatement 24 = .ok (.getfield 132, 3) := by decide +kernel
theorem dX10_edgeStatement_27 : decode cX10_edgeStatement 27 = .ok (.istore_n 2, 1) := by decide +kernel
theorem dX10_edgeStatement_28 : decode cX10_edgeStatement 28 = .ok (.aload_n 0, 1) := by decide +kernel
theorem dX10_edgeStatement_29 : decode cX10_edgeStatement 29 = .ok (.iconst 0, 1) := by decide +kernel
theorem dX10_edgeStatement_30 : decode cX10_edgeStatement 30 = .ok (.aload_n 0, 1) := by decide +kernel
theorem dX10_edgeStatement_31 : decode cX10_edgeStatement 31 = .ok (.getfield 7, 3) := by decide +kernel
theorem dX10_edgeStatement_34 : decode cX10_edgeStatement 34 = .ok (.iconst 0, 1) := by decide +kernel
theorem dX10_edgeStatement_35 : decode cX10_edgeStatement 35 = .ok (.iaload, 1) := by decide +kernel
theorem dX10_edgeStatement_36 : decode cX10_edgeStatement 36 = .ok (.iconst 1, 1) := by decide +kernel
theorem dX10_edgeStatement_37 : decode cX10_edgeStatement 37 = .ok (.isub, 1) := by decide +kernel
theorem dX10_edgeStatement_38 : decode cX10_edgeStatement 38 = .ok (.invokevirtual 139, 3) := by decide +kernel
theorem dX10_edgeStatement_41 : decode cX10_edgeStatement 41 = .ok (.ifCond .ne 5, 3) := by decide +kernel
theorem dX10_edgeStatement_44 : decode cX10_edgeStatement 44 = .ok (.iconst 0, 1) := by decide +kernel
theorem dX10_edgeStatement_45 : decode cX10_edgeStatement 45 = .ok (.ireturn, 1) := by decide +kernel
theorem dX10_edgeStatement_46 : decode cX10_edgeStatement 46 = .ok (.aload_n 0, 1) := by decide +kernel
theorem dX10_edgeStatement_47 : decode cX10_edgeStatement 47 = .ok (.getfield 132, 3) := by decide +kernel
theorem dX10_edgeStatement_50 : decode cX10_edgeStatement 50 = .ok (.istore_n 3, 1) := by decide +kernel
theorem dX10_edgeStatement_51 : decode cX10_edgeStatement 51 = .ok (.iconst 1, 1) := by decide +kernel
theorem dX10_edgeStatement_52 : decode cX10_edgeStatement 52 = .ok (.istore 4, 2) := by decide +kernel
theorem dX10_edgeStatement_54 : decode cX10_edgeStatement 54 = .ok (.aload_n 0, 1) := by decide +kernel
theorem dX10_edgeStatement_55 : decode cX10_edgeStatement 55 = .ok (.getfield 95, 3) := by decide +kernel
theorem dX10_edgeStatement_58 : decode cX10_edgeStatement 58 = .ok (.iconst 3, 1) := by decide +kernel
theorem dX10_edgeStatement_59 : decode cX10_edgeStatement 59 = .ok (.if_icmp .ne 26, 3) := by decide +kernel
theorem dX10_edgeStatement_62 : decode cX10_edgeStatement 62 = .ok (.aload_n 0, 1) := by decide +kernel
theorem dX10_edgeStatement_63 : decode cX10_edgeStatement 63 = .ok (.getfield 98, 3) := by decide +kernel
theorem dX10_edgeStatement_66 : decode cX10_edgeStatement 66 = .ok (.istore 4, 2) := by decide +kernel
theorem dX10_edgeStatement_68 : decode cX10_edgeStatement 68 = .ok (.iload 4, 2) := by decide +kernel
theorem dX10_edgeStatement_70 : decode cX10_edgeStatement 70 = .ok (.iconst 1, 1) := by decide +kernel
theorem dX10_edgeStatement_71 : decode cX10_edgeStatement 71 = .ok (.bipush 9, 2) := by decide +kernel
theorem dX10_edgeStatement_73 : decode cX10_edgeStatement 73 = .ok (.invokestatic 128, 3) := by decide +kernel
theorem dX10_edgeStatement_76 : decode cX10_edgeStatement 76 = .ok (.ifCond .ne 23, 3) := by decide +kernel
theorem dX10_edgeStatement_79 : decode cX10_edgeStatement 79 = .ok (.aload_n 0, 1) := by decide +kernel
theorem dX10_edgeStatement_80 : decode cX10_edgeStatement 80 = .ok (.iconst 3, 1) := by decide +kernel
theorem dX10_edgeStatement_81 : decode cX10_edgeStatement 81 = .ok (.invokevirtual 125, 3) := by decide +kernel
theorem dX10_edgeStatement_84 : decode cX10_edgeStatement 84 = .ok (.ireturn, 1) := by decide +kernel
theorem dX10_edgeStatement_85 : decode cX10_edgeStatement 85 = .ok (.aload_n 0, 1) := by decide +kernel
theorem dX10_edgeStatement_86 : decode cX10_edgeStatement 86 = .ok (.getfield 95, 3) := by decide +kernel
theorem dX10_edgeStatement_89 : decode cX10_edgeStatement 89 = .ok (.iconst 4, 1) := by decide +kernel
theorem dX10_edgeStatement_90 : decode cX10_edgeStatement 90 = .ok (.if_icmp .eq 9, 3) := by decide +kernel
theorem dX10_edgeStatement_93 : decode cX10_edgeStatement 93 = .ok (.aload_n 0, 1) := by decide +kernel
theorem dX10_edgeStatement_94 : decode cX10_edgeStatement 94 = .ok (.iconst 2, 1) := by decide +kernel
theorem dX10_edgeStatement_95 : decode cX10_edgeStatement 95 = .ok (.invokevirtual 125, 3) := by decide +kernel
theorem dX10_edgeStatement_98 : decode cX10_edgeStatement 98 = .ok (.ireturn, 1) := by decide +kernel
theorem dX10_edgeStatement_99 : decode cX10_edgeStatement 99 = .ok (.aload_n 0, 1) := by decide +kernel
theorem dX10_edgeStatement_100 : decode cX10_edgeStatement 100 = .ok (.iload_n 1, 1) := by decide +kernel
theorem dX10_edgeStatement_101 : decode cX10_edgeStatement 101 = .ok (.invokevirtual 146, 3) := by decide +kernel
theorem dX10_edgeStatement_104 : decode cX10_edgeStatement 104 = .ok (.iload 4, 2) := by decide +kernel
theorem dX10_edgeStatement_106 : decode cX10_edgeStatement 106 = .ok (.iadd, 1) := by decide +kernel
theorem dX10_edgeStatement_107 : decode cX10_edgeStatement 107 = .ok (.bipush 16, 2) := by decide +kernel
theorem dX10_edgeStatement_109 : decode cX10_edgeStatement 109 = .ok (.if_icmp .le 9, 3) := by decide +kernel
theorem dX10_edgeStatement_112 : decode cX10_edgeStatement 112 = .ok (.aload_n 0, 1) := by decide +kernel
theorem dX10_edgeStatement_113 : decode cX10_edgeStatement 113 = .ok (.iconst 5, 1) := by decide +kernel
theorem dX10_edgeStatement_114 : decode cX10_edgeStatement 114 = .ok (.invokevirtual 125, 3) := by decide +kernel
theorem dX10_edgeStatement_117 : decode cX10_edgeStatement 117 = .ok (.ireturn, 1) := by decide +kernel
theorem dX10_edgeStatement_118 : decode cX10_edgeStatement 118 = .ok (.aload_n 0, 1) := by decide +kernel
theorem dX10_edgeStatement_119 : decode cX10_edgeStatement 119 = .ok (.getfield 95, 3) := by decide +kernel
theorem dX10_edgeStatement_122 : decode cX10_edgeStatement 122 = .ok (.iconst 3, 1) := by decide +kernel
theorem dX10_edgeStatement_123 : decode cX10_edgeStatement 123 = .ok (.if_icmp .ne 8, 3) := by decide +kernel
theorem dX10_edgeStatement_126 : decode cX10_edgeStatement 126 = .ok (.aload_n 0, 1) := by decide +kernel
theorem dX10_edgeStatement_127 : decode cX10_edgeStatement 127 = .ok (.invokevirtual 135, 3) := by decide +kernel
theorem dX10_edgeStatement_130 : decode cX10_edgeStatement 130 = .ok (.pop, 1) := by decide +kernel
theorem dX10_edgeStatement_131 : decode cX10_edgeStatement 131 = .ok (.aload_n 0, 1) := by decide +kernel
theorem dX10_edgeStatement_132 : decode cX10_edgeStatement 132 = .ok (.iload_n 1, 1) := by decide +kernel
theorem dX10_edgeStatement_133 : decode cX10_edgeStatement 133 = .ok (.iload_n 2, 1) := by decide +kernel
theorem dX10_edgeStatement_134 : decode cX10_edgeStatement 134 = .ok (.iload_n 3, 1) := by decide +kernel
theorem dX10_edgeStatement_135 : decode cX10_edgeStatement 135 = .ok (.iload 4, 2) := by decide +kernel
theorem dX10_edgeStatement_137 : decode cX10_edgeStatement 137 = .ok (.invokevirtual 149, 3) := by decide +kernel
theorem dX10_edgeStatement_140 : decode cX10_edgeStatement 140 = .ok (.iconst 1, 1) := by decide +kernel
theorem dX10_edgeStatement_141 : decode cX10_edgeStatement 141 = .ok (.ireturn, 1) := by decide +kernel
theorem dX10_modeStatement_0 : decode cX10_modeStatement 0 = .ok (.aload_n 0, 1) := by decide +kernel
theorem dX10_modeStatement_1 : decode cX10_modeStatement 1 = .ok (.invokevirtual 135, 3) := by decide +kernel
theorem dX10_modeStatement_4 : decode cX10_modeStatement 4 = .ok (.pop, 1) := by decide +kernel
theorem dX10_modeStatement_5 : decode cX10_modeStatement 5 = .ok (.aload_n 0, 1) := by decide +kernel
theorem dX10_modeStatement_6 : decode cX10_modeStatement 6 = .ok (.iconst 0, 1) := by decide +kernel
theorem dX10_modeStatement_7 : decode cX10_modeStatement 7 = .ok (.iconst 2, 1) := by decide +kernel
theorem dX10_modeStatement_8 : decode cX10_modeStatement 8 = .ok (.invokevirtual 139, 3) := by decide +kernel
theorem dX10_modeStatement_11 : decode cX10_modeStatement 11 = .ok (.ifCond .ne 5, 3) := by decide +kernel
theorem dX10_modeStatement_14 : decode cX10_modeStatement 14 = .ok (.iconst 0, 1) := by decide +kernel
theorem dX10_modeStatement_15 : decode cX10_modeStatement 15 = .ok (.ireturn, 1) := by decide +kernel
theorem dX10_modeStatement_16 : decode cX10_modeStatement 16 = .ok (.aload_n 0, 1) := by decide +kernel
theorem dX10_modeStatement_17 : decode cX10_modeStatement 17 = .ok (.getfield 7, 3) := by decide +kernel
theorem dX10_modeStatement_20 : decode cX10_modeStatement 20 = .ok (.iconst 1, 1) := by decide +kernel
theorem dX10_modeStatement_21 : decode cX10_modeStatement 21 = .ok (.aload_n 0, 1) := by decide +kernel
theorem dX10_modeStatement_22 : decode cX10_modeStatement 22 = .ok (.getfield 132, 3) := by decide +kernel
theorem dX10_modeStatement_25 : decode cX10_modeStatement 25 = .ok (.iastore, 1) := by decide +kernel
theorem dX10_modeStatement_26 : decode cX10_modeStatement 26 = .ok (.iconst 1, 1) := by decide +kernel
theorem dX10_modeStatement_27 : decode cX10_modeStatement 27 = .ok (.ireturn, 1) := by decide +kernel
theorem dX10_firstStatement_0 : decode cX10_firstStatement 0 = .ok (.aload_n 0, 1) := by decide +kernel
theorem dX10_firstStatement_1 : decode cX10_firstStatement 1 = .ok (.ldc 153, 2) := by decide +kernel
theorem dX10_firstStatement_3 : decode cX10_firstStatement 3 = .ok (.invokevirtual 155, 3) := by decide +kernel
theorem dX10_firstStatement_6 : decode cX10_firstStatement 6 = .ok (.ifCond .eq 8, 3) := by decide +kernel
theorem dX10_firstStatement_9 : decode cX10_firstStatement 9 = .ok (.aload_n 0, 1) := by decide +kernel
