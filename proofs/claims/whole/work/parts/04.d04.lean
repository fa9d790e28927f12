theorem dX10_reason_40 : decode cX10_reason 40 = .ok (.iload_n 3, 1) := by decide +kernel
theorem dX10_reason_41 : decode cX10_reason 41 = .ok (.iload 4, 2) := by decide +kernel
theorem dX10_reason_43 : decode cX10_reason 43 = .ok (.invokevirtual 294, 3) := by decide +kernel
theorem dX10_reason_46 : decode cX10_reason 46 = .ok (.goto 4, 3) := by decide +kernel
theorem dX10_reason_49 : decode cX10_reason 49 = .ok (.iconst 0, 1) := by decide +kernel
theorem dX10_reason_50 : decode cX10_reason 50 = .ok (.ireturn, 1) := by decide +kernel
theorem dX10_switches__0 : decode cX10_switches_ 0 = .ok (.aload_n 0, 1) := by decide +kernel
theorem dX10_switches__1 : decode cX10_switches_ 1 = .ok (.iconst 0, 1) := by decide +kernel
theorem dX10_switches__2 : decode cX10_switches_ 2 = .ok (.putfield 54, 3) := by decide +kernel
theorem dX10_switches__5 : decode cX10_switches_ 5 = .ok (.aload_n 0, 1) := by decide +kernel
theorem dX10_switches__6 : decode cX10_switches_ 6 = .ok (.aload_n 0, 1) := by decide +kernel
theorem dX10_switches__7 : decode cX10_switches_ 7 = .ok (.getfield 7, 3) := by decide +kernel
theorem dX10_switches__10 : decode cX10_switches_ 10 = .ok (.iconst 1, 1) := by decide +kernel
theorem dX10_switches__11 : decode cX10_switches_ 11 = .ok (.iaload, 1) := by decide +kernel
theorem dX10_switches__12 : decode cX10_switches_ 12 = .ok (.invokevirtual 298, 3) := by decide +kernel
theorem dX10_switches__15 : decode cX10_switches_ 15 = .ok (.ireturn, 1) := by decide +kernel
theorem dX10_switchAt_0 : decode cX10_switchAt 0 = .ok (.aload_n 0, 1) := by decide +kernel
theorem dX10_switchAt_1 : decode cX10_switchAt 1 = .ok (.aload_n 0, 1) := by decide +kernel
theorem dX10_switchAt_2 : decode cX10_switchAt 2 = .ok (.getfield 7, 3) := by decide +kernel
theorem dX10_switchAt_5 : decode cX10_switchAt 5 = .ok (.iconst 1, 1) := by decide +kernel
theorem dX10_switchAt_6 : decode cX10_switchAt 6 = .ok (.iaload, 1) := by decide +kernel
theorem dX10_switchAt_7 : decode cX10_switchAt 7 = .ok (.invokevirtual 298, 3) := by decide +kernel
theorem dX10_switchAt_10 : decode cX10_switchAt 10 = .ok (.istore_n 3, 1) := by decide +kernel
theorem dX10_switchAt_11 : decode cX10_switchAt 11 = .ok (.aload_n 0, 1) := by decide +kernel
theorem dX10_switchAt_12 : decode cX10_switchAt 12 = .ok (.iload_n 1, 1) := by decide +kernel
theorem dX10_switchAt_13 : decode cX10_switchAt 13 = .ok (.iconst 0, 1) := by decide +kernel
theorem dX10_switchAt_14 : decode cX10_switchAt 14 = .ok (.iload_n 3, 1) := by decide +kernel
theorem dX10_switchAt_15 : decode cX10_switchAt 15 = .ok (.iconst 1, 1) := by decide +kernel
theorem dX10_switchAt_16 : decode cX10_switchAt 16 = .ok (.isub, 1) := by decide +kernel
theorem dX10_switchAt_17 : decode cX10_switchAt 17 = .ok (.invokestatic 128, 3) := by decide +kernel
theorem dX10_switchAt_20 : decode cX10_switchAt 20 = .ok (.iload_n 2, 1) := by decide +kernel
theorem dX10_switchAt_21 : decode cX10_switchAt 21 = .ok (.iconst 0, 1) := by decide +kernel
theorem dX10_switchAt_22 : decode cX10_switchAt 22 = .ok (.iconst 3, 1) := by decide +kernel
theorem dX10_switchAt_23 : decode cX10_switchAt 23 = .ok (.invokestatic 128, 3) := by decide +kernel
theorem dX10_switchAt_26 : decode cX10_switchAt 26 = .ok (.invokevirtual 244, 3) := by decide +kernel
theorem dX10_switchAt_29 : decode cX10_switchAt 29 = .ok (.ifCond .eq 16, 3) := by decide +kernel
theorem dX10_switchAt_32 : decode cX10_switchAt 32 = .ok (.aload_n 0, 1) := by decide +kernel
theorem dX10_switchAt_33 : decode cX10_switchAt 33 = .ok (.getfield 45, 3) := by decide +kernel
theorem dX10_switchAt_36 : decode cX10_switchAt 36 = .ok (.iload_n 1, 1) := by decide +kernel
theorem dX10_switchAt_37 : decode cX10_switchAt 37 = .ok (.iaload, 1) := by decide +kernel
theorem dX10_switchAt_38 : decode cX10_switchAt 38 = .ok (.iload_n 2, 1) := by decide +kernel
theorem dX10_switchAt_39 : decode cX10_switchAt 39 = .ok (.invokestatic 278, 3) := by decide +kernel
theorem dX10_switchAt_42 : decode cX10_switchAt 42 = .ok (.goto 4, 3) := by decide +kernel
theorem dX10_switchAt_45 : decode cX10_switchAt 45 = .ok (.iconst 0, 1) := by decide +kernel
theorem dX10_switchAt_46 : decode cX10_switchAt 46 = .ok (.ireturn, 1) := by decide +kernel
theorem dX10_canSwitch_0 : decode cX10_canSwitch 0 = .ok (.aload_n 0, 1) := by decide +kernel
theorem dX10_canSwitch_1 : decode cX10_canSwitch 1 = .ok (.iload_n 1, 1) := by decide +kernel
theorem dX10_canSwitch_2 : decode cX10_canSwitch 2 = .ok (.iload_n 2, 1) := by decide +kernel
theorem dX10_canSwitch_3 : decode cX10_canSwitch 3 = .ok (.invokevirtual 210, 3) := by decide +kernel
theorem dX10_canSwitch_6 : decode cX10_canSwitch 6 = .ok (.ifCond .eq 17, 3) := by decide +kernel
theorem dX10_canSwitch_9 : decode cX10_canSwitch 9 = .ok (.aload_n 0, 1) := by decide +kernel
theorem dX10_canSwitch_10 : decode cX10_canSwitch 10 = .ok (.iload_n 3, 1) := by decide +kernel
theorem dX10_canSwitch_11 : decode cX10_canSwitch 11 = .ok (.iload 4, 2) := by decide +kernel
theorem dX10_canSwitch_13 : decode cX10_canSwitch 13 = .ok (.invokevirtual 210, 3) := by decide +kernel
theorem dX10_canSwitch_16 : decode cX10_canSwitch 16 = .ok (.ifCond .eq 7, 3) := by decide +kernel
theorem dX10_canSwitch_19 : decode cX10_canSwitch 19 = .ok (.iconst 1, 1) := by decide +kernel
theorem dX10_canSwitch_20 : decode cX10_canSwitch 20 = .ok (.goto 4, 3) := by decide +kernel
theorem dX10_canSwitch_23 : decode cX10_canSwitch 23 = .ok (.iconst 0, 1) := by decide +kernel
theorem dX10_canSwitch_24 : decode cX10_canSwitch 24 = .ok (.istore 5, 2) := by decide +kernel
theorem dX10_canSwitch_26 : decode cX10_canSwitch 26 = .ok (.aload_n 0, 1) := by decide +kernel
theorem dX10_canSwitch_27 : decode cX10_canSwitch 27 = .ok (.iload 5, 2) := by decide +kernel
theorem dX10_canSwitch_29 : decode cX10_canSwitch 29 = .ok (.iload 5, 2) := by decide +kernel
theorem dX10_canSwitch_31 : decode cX10_canSwitch 31 = .ok (.ifCond .eq 25, 3) := by decide +kernel
theorem dX10_canSwitch_34 : decode cX10_canSwitch 34 = .ok (.aload_n 0, 1) := by decide +kernel
theorem dX10_canSwitch_35 : decode cX10_canSwitch 35 = .ok (.aload_n 0, 1) := by decide +kernel
theorem dX10_canSwitch_36 : decode cX10_canSwitch 36 = .ok (.getfield 7, 3) := by decide +kernel
theorem dX10_canSwitch_39 : decode cX10_canSwitch 39 = .ok (.iconst 1, 1) := by decide +kernel
theorem dX10_canSwitch_40 : decode cX10_canSwitch 40 = .ok (.iaload, 1) := by decide +kernel
theorem dX10_canSwitch_41 : decode cX10_canSwitch 41 = .ok (.iload_n 1, 1) := by decide +kernel
theorem dX10_canSwitch_42 : decode cX10_canSwitch 42 = .ok (.iload_n 2, 1) := by decide +kernel
theorem dX10_canSwitch_43 : decode cX10_canSwitch 43 = .ok (.iload_n 3, 1) := by decide +kernel
theorem dX10_canSwitch_44 : decode cX10_canSwitch 44 = .ok (.iload 4, 2) := by decide +kernel
theorem dX10_canSwitch_46 : decode cX10_canSwitch 46 = .ok (.invokevirtual 294, 3) := by decide +kernel
theorem dX10_canSwitch_49 : decode cX10_canSwitch 49 = .ok (.ifCond .ne 7, 3) := by decide +kernel
theorem dX10_canSwitch_52 : decode cX10_canSwitch 52 = .ok (.iconst 1, 1) := by decide +kernel
theorem dX10_canSwitch_53 : decode cX10_canSwitch 53 = .ok (.goto 4, 3) := by decide +kernel
theorem dX10_canSwitch_56 : decode cX10_canSwitch 56 = .ok (.iconst 0, 1) := by decide +kernel
theorem dX10_canSwitch_57 : decode cX10_canSwitch 57 = .ok (.invokevirtual 244, 3) := by decide +kernel
theorem dX10_canSwitch_60 : decode cX10_canSwitch 60 = .ok (.ireturn, 1) := by decide +kernel
theorem dX10_componentsBehind_0 : decode cX10_componentsBehind 0 = .ok (.aload_n 0, 1) := by decide +kernel
theorem dX10_componentsBehind_1 : decode cX10_componentsBehind 1 = .ok (.iload_n 1, 1) := by decide +kernel
theorem dX10_componentsBehind_2 : decode cX10_componentsBehind 2 = .ok (.iload_n 2, 1) := by decide +kernel
theorem dX10_componentsBehind_3 : decode cX10_componentsBehind 3 = .ok (.iload_n 3, 1) := by decide +kernel
theorem dX10_componentsBehind_4 : decode cX10_componentsBehind 4 = .ok (.iload 4, 2) := by decide +kernel
theorem dX10_componentsBehind_6 : decode cX10_componentsBehind 6 = .ok (.invokevirtual 301, 3) := by decide +kernel
theorem dX10_componentsBehind_9 : decode cX10_componentsBehind 9 = .ok (.ifCond .ne 5, 3) := by decide +kernel
theorem dX10_componentsBehind_12 : decode cX10_componentsBehind 12 = .ok (.iconst 0, 1) := by decide +kernel
theorem dX10_componentsBehind_13 : decode cX10_componentsBehind 13 = .ok (.ireturn, 1) := by decide +kernel
theorem dX10_componentsBehind_14 : decode cX10_componentsBehind 14 = .ok (.aload_n 0, 1) := by decide +kernel
theorem dX10_componentsBehind_15 : decode cX10_componentsBehind 15 = .ok (.iload_n 1, 1) := by decide +kernel
theorem dX10_componentsBehind_16 : decode cX10_componentsBehind 16 = .ok (.iload_n 2, 1) := by decide +kernel
theorem dX10_componentsBehind_17 : decode cX10_componentsBehind 17 = .ok (.iload_n 3, 1) := by decide +kernel
theorem dX10_componentsBehind_18 : decode cX10_componentsBehind 18 = .ok (.iload 4, 2) := by decide +kernel
theorem dX10_componentsBehind_20 : decode cX10_componentsBehind 20 = .ok (.invokevirtual 281, 3) := by decide +kernel
theorem dX10_componentsBehind_23 : decode cX10_componentsBehind 23 = .ok (.aload_n 0, 1) := by decide +kernel
theorem dX10_componentsBehind_24 : decode cX10_componentsBehind 24 = .ok (.invokevirtual 235, 3) := by decide +kernel
theorem dX10_componentsBehind_27 : decode cX10_componentsBehind 27 = .ok (.istore 5, 2) := by decide +kernel
theorem dX10_componentsBehind_29 : decode cX10_componentsBehind 29 = .ok (.aload_n 0, 1) := by decide +kernel
theorem dX10_componentsBehind_30 : decode cX10_componentsBehind 30 = .ok (.iload_n 1, 1) := by decide +kernel
theorem dX10_componentsBehind_31 : decode cX10_componentsBehind 31 = .ok (.iload_n 2, 1) := by decide +kernel
theorem dX10_componentsBehind_32 : decode cX10_componentsBehind 32 = .ok (.iload_n 3, 1) := by decide +kernel
theorem dX10_componentsBehind_33 : decode cX10_componentsBehind 33 = .ok (.iload 4, 2) := by decide +kernel
theorem dX10_componentsBehind_35 : decode cX10_componentsBehind 35 = .ok (.invokevirtual 284, 3) := by decide +kernel
theorem dX10_componentsBehind_38 : decode cX10_componentsBehind 38 = .ok (.iload 5, 2) := by decide +kernel
theorem dX10_componentsBehind_40 : decode cX10_componentsBehind 40 = .ok (.ireturn, 1) := by decide +kernel
theorem dX10_differenceNow_0 : decode cX10_differenceNow 0 = .ok (.iconst 0, 1) := by decide +kernel
theorem dX10_differenceNow_1 : decode cX10_differenceNow 1 = .ok (.istore_n 1, 1) := by decide +kernel
theorem dX10_differenceNow_2 : decode cX10_differenceNow 2 = .ok (.iconst 0, 1) := by decide +kernel
theorem dX10_differenceNow_3 : decode cX10_differenceNow 3 = .ok (.istore_n 2, 1) := by decide +kernel
theorem dX10_differenceNow_4 : decode cX10_differenceNow 4 = .ok (.iload_n 2, 1) := by decide +kernel
theorem dX10_differenceNow_5 : decode cX10_differenceNow 5 = .ok (.bipush 8, 2) := by decide +kernel
theorem dX10_differenceNow_7 : decode cX10_differenceNow 7 = .ok (.if_icmp .ge 46, 3) := by decide +kernel
theorem dX10_differenceNow_10 : decode cX10_differenceNow 10 = .ok (.iload_n 2, 1) := by decide +kernel
theorem dX10_differenceNow_11 : decode cX10_differenceNow 11 = .ok (.istore_n 3, 1) := by decide +kernel
theorem dX10_differenceNow_12 : decode cX10_differenceNow 12 = .ok (.iload_n 3, 1) := by decide +kernel
theorem dX10_differenceNow_13 : decode cX10_differenceNow 13 = .ok (.bipush 8, 2) := by decide +kernel
theorem dX10_differenceNow_15 : decode cX10_differenceNow 15 = .ok (.if_icmp .ge 32, 3) := by decide +kernel
theorem dX10_differenceNow_18 : decode cX10_differenceNow 18 = .ok (.iload_n 1, 1) := by decide +kernel
theorem dX10_differenceNow_19 : decode cX10_differenceNow 19 = .ok (.iconst 0, 1) := by decide +kernel
theorem dX10_differenceNow_20 : decode cX10_differenceNow 20 = .ok (.aload_n 0, 1) := by decide +kernel
theorem dX10_differenceNow_21 : decode cX10_differenceNow 21 = .ok (.iconst 2, 1) := by decide +kernel
theorem dX10_differenceNow_22 : decode cX10_differenceNow 22 = .ok (.iload_n 2, 1) := by decide +kernel
theorem dX10_differenceNow_23 : decode cX10_differenceNow 23 = .ok (.iload_n 3, 1) := by decide +kernel
theorem dX10_differenceNow_24 : decode cX10_differenceNow 24 = .ok (.invokevirtual 68, 3) := by decide +kernel
theorem dX10_differenceNow_27 : decode cX10_differenceNow 27 = .ok (.aload_n 0, 1) := by decide +kernel
theorem dX10_differenceNow_28 : decode cX10_differenceNow 28 = .ok (.bipush 66, 2) := by decide +kernel
theorem dX10_differenceNow_30 : decode cX10_differenceNow 30 = .ok (.iload_n 2, 1) := by decide +kernel
theorem dX10_differenceNow_31 : decode cX10_differenceNow 31 = .ok (.iload_n 3, 1) := by decide +kernel
theorem dX10_differenceNow_32 : decode cX10_differenceNow 32 = .ok (.invokevirtual 68, 3) := by decide +kernel
theorem dX10_differenceNow_35 : decode cX10_differenceNow 35 = .ok (.isub, 1) := by decide +kernel
theorem dX10_differenceNow_36 : decode cX10_differenceNow 36 = .ok (.invokestatic 220, 3) := by decide +kernel
theorem dX10_differenceNow_39 : decode cX10_differenceNow 39 = .ok (.iadd, 1) := by decide +kernel
theorem dX10_differenceNow_40 : decode cX10_differenceNow 40 = .ok (.istore_n 1, 1) := by decide +kernel
theorem dX10_differenceNow_41 : decode cX10_differenceNow 41 = .ok (.iinc 3 1, 3) := by decide +kernel
theorem dX10_differenceNow_44 : decode cX10_differenceNow 44 = .ok (.goto (-32), 3) := by decide +kernel
theorem dX10_differenceNow_47 : decode cX10_differenceNow 47 = .ok (.iinc 2 1, 3) := by decide +kernel
theorem dX10_differenceNow_50 : decode cX10_differenceNow 50 = .ok (.goto (-46), 3) := by decide +kernel
theorem dX10_differenceNow_53 : decode cX10_differenceNow 53 = .ok (.iload_n 1, 1) := by decide +kernel
theorem dX10_differenceNow_54 : decode cX10_differenceNow 54 = .ok (.ireturn, 1) := by decide +kernel
theorem dX10_nearest_0 : decode cX10_nearest 0 = .ok (.aload_n 0, 1) := by decide +kernel
theorem dX10_nearest_1 : decode cX10_nearest 1 = .ok (.aload_n 0, 1) := by decide +kernel
theorem dX10_nearest_2 : decode cX10_nearest 2 = .ok (.getfield 7, 3) := by decide +kernel
theorem dX10_nearest_5 : decode cX10_nearest 5 = .ok (.iconst 1, 1) := by decide +kernel
theorem dX10_nearest_6 : decode cX10_nearest 6 = .ok (.iaload, 1) := by decide +kernel
theorem dX10_nearest_7 : decode cX10_nearest 7 = .ok (.invokevirtual 298, 3) := by decide +kernel
theorem dX10_nearest_10 : decode cX10_nearest 10 = .ok (.istore_n 1, 1) := by decide +kernel
theorem dX10_nearest_11 : decode cX10_nearest 11 = .ok (.aload_n 0, 1) := by decide +kernel
theorem dX10_nearest_12 : decode cX10_nearest 12 = .ok (.iload_n 1, 1) := by decide +kernel
theorem dX10_nearest_13 : decode cX10_nearest 13 = .ok (.ifCond .le 7, 3) := by decide +kernel
theorem dX10_nearest_16 : decode cX10_nearest 16 = .ok (.iconst 1, 1) := by decide +kernel
theorem dX10_nearest_17 : decode cX10_nearest 17 = .ok (.goto 4, 3) := by decide +kernel
theorem dX10_nearest_20 : decode cX10_nearest 20 = .ok (.iconst 0, 1) := by decide +kernel
theorem dX10_nearest_21 : decode cX10_nearest 21 = .ok (.invokevirtual 188, 3) := by decide +kernel
theorem dX10_nearest_24 : decode cX10_nearest 24 = .ok (.ifCond .ne 5, 3) := by decide +kernel
theorem dX10_nearest_27 : decode cX10_nearest 27 = .ok (.iconst 0, 1) := by decide +kernel
theorem dX10_nearest_28 : decode cX10_nearest 28 = .ok (.ireturn, 1) := by decide +kernel
theorem dX10_nearest_29 : decode cX10_nearest 29 = .ok (.iconst 0, 1) := by decide +kernel
theorem dX10_nearest_30 : decode cX10_nearest 30 = .ok (.istore_n 2, 1) := by decide +kernel
theorem dX10_nearest_31 : decode cX10_nearest 31 = .ok (.iconst 0, 1) := by decide +kernel
theorem dX10_nearest_32 : decode cX10_nearest 32 = .ok (.istore_n 3, 1) := by decide +kernel
theorem dX10_nearest_33 : decode cX10_nearest 33 = .ok (.iconst 0, 1) := by decide +kernel
theorem dX10_nearest_34 : decode cX10_nearest 34 = .ok (.istore 4, 2) := by decide +kernel
theorem dX10_nearest_36 : decode cX10_nearest 36 = .ok (.iload 4, 2) := by decide +kernel
theorem dX10_nearest_38 : decode cX10_nearest 38 = .ok (.iload_n 1, 1) := by decide +kernel
theorem dX10_nearest_39 : decode cX10_nearest 39 = .ok (.if_icmp .ge 54, 3) := by decide +kernel
theorem dX10_nearest_42 : decode cX10_nearest 42 = .ok (.aload_n 0, 1) := by decide +kernel
theorem dX10_nearest_43 : decode cX10_nearest 43 = .ok (.aload_n 0, 1) := by decide +kernel
theorem dX10_nearest_44 : decode cX10_nearest 44 = .ok (.getfield 45, 3) := by decide +kernel
theorem dX10_nearest_47 : decode cX10_nearest 47 = .ok (.iload 4, 2) := by decide +kernel
theorem dX10_nearest_49 : decode cX10_nearest 49 = .ok (.iaload, 1) := by decide +kernel
theorem dX10_nearest_50 : decode cX10_nearest 50 = .ok (.invokevirtual 304, 3) := by decide +kernel
theorem dX10_nearest_53 : decode cX10_nearest 53 = .ok (.aload_n 0, 1) := by decide +kernel
theorem dX10_nearest_54 : decode cX10_nearest 54 = .ok (.invokevirtual 307, 3) := by decide +kernel
theorem dX10_nearest_57 : decode cX10_nearest 57 = .ok (.istore 5, 2) := by decide +kernel
theorem dX10_nearest_59 : decode cX10_nearest 59 = .ok (.aload_n 0, 1) := by decide +kernel
theorem dX10_nearest_60 : decode cX10_nearest 60 = .ok (.aload_n 0, 1) := by decide +kernel
theorem dX10_nearest_61 : decode cX10_nearest 61 = .ok (.getfield 45, 3) := by decide +kernel
theorem dX10_nearest_64 : decode cX10_nearest 64 = .ok (.iload 4, 2) := by decide +kernel
theorem dX10_nearest_66 : decode cX10_nearest 66 = .ok (.iaload, 1) := by decide +kernel
theorem dX10_nearest_67 : decode cX10_nearest 67 = .ok (.invokevirtual 310, 3) := by decide +kernel
theorem dX10_nearest_70 : decode cX10_nearest 70 = .ok (.iload 4, 2) := by decide +kernel
theorem dX10_nearest_72 : decode cX10_nearest 72 = .ok (.ifCond .eq 9, 3) := by decide +kernel
theorem dX10_nearest_75 : decode cX10_nearest 75 = .ok (.iload 5, 2) := by decide +kernel
theorem dX10_nearest_77 : decode cX10_nearest 77 = .ok (.iload_n 3, 1) := by decide +kernel
theorem dX10_nearest_78 : decode cX10_nearest 78 = .ok (.if_icmp .ge 9, 3) := by decide +kernel
theorem dX10_nearest_81 : decode cX10_nearest 81 = .ok (.iload 4, 2) := by decide +kernel
theorem dX10_nearest_83 : decode cX10_nearest 83 = .ok (.istore_n 2, 1) := by decide +kernel
theorem dX10_nearest_84 : decode cX10_nearest 84 = .ok (.iload 5, 2) := by decide +kernel
theorem dX10_nearest_86 : decode cX10_nearest 86 = .ok (.istore_n 3, 1) := by decide +kernel
theorem dX10_nearest_87 : decode cX10_nearest 87 = .ok (.iinc 4 1, 3) := by decide +kernel
theorem dX10_nearest_90 : decode cX10_nearest 90 = .ok (.goto (-54), 3) := by decide +kernel
theorem dX10_nearest_93 : decode cX10_nearest 93 = .ok (.iload_n 2, 1) := by decide +kernel
theorem dX10_nearest_94 : decode cX10_nearest 94 = .ok (.ireturn, 1) := by decide +kernel
theorem dX10_areAlike_0 : decode cX10_areAlike 0 = .ok (.iconst 1, 1) := by decide +kernel
theorem dX10_areAlike_1 : decode cX10_areAlike 1 = .ok (.istore_n 1, 1) := by decide +kernel
theorem dX10_areAlike_2 : decode cX10_areAlike 2 = .ok (.iconst 0, 1) := by decide +kernel
theorem dX10_areAlike_3 : decode cX10_areAlike 3 = .ok (.istore_n 2, 1) := by decide +kernel
theorem dX10_areAlike_4 : decode cX10_areAlike 4 = .ok (.iload_n 2, 1) := by decide +kernel
theorem dX10_areAlike_5 : decode cX10_areAlike 5 = .ok (.bipush 8, 2) := by decide +kernel
theorem dX10_areAlike_7 : decode cX10_areAlike 7 = .ok (.if_icmp .ge 35, 3) := by decide +kernel
theorem dX10_areAlike_10 : decode cX10_areAlike 10 = .ok (.iload_n 1, 1) := by decide +kernel
theorem dX10_areAlike_11 : decode cX10_areAlike 11 = .ok (.ifCond .eq 23, 3) := by decide +kernel
theorem dX10_areAlike_14 : decode cX10_areAlike 14 = .ok (.aload_n 0, 1) := by decide +kernel
theorem dX10_areAlike_15 : decode cX10_areAlike 15 = .ok (.iconst 2, 1) := by decide +kernel
theorem dX10_areAlike_16 : decode cX10_areAlike 16 = .ok (.iload_n 2, 1) := by decide +kernel
theorem dX10_areAlike_17 : decode cX10_areAlike 17 = .ok (.invokevirtual 213, 3) := by decide +kernel
theorem dX10_areAlike_20 : decode cX10_areAlike 20 = .ok (.aload_n 0, 1) := by decide +kernel
theorem dX10_areAlike_21 : decode cX10_areAlike 21 = .ok (.bipush 66, 2) := by decide +kernel
theorem dX10_areAlike_23 : decode cX10_areAlike 23 = .ok (.iload_n 2, 1) := by decide +kernel
theorem dX10_areAlike_24 : decode cX10_areAlike 24 = .ok (.invokevirtual 213, 3) := by decide +kernel
theorem dX10_areAlike_27 : decode cX10_areAlike 27 = .ok (.if_icmp .ne 7, 3) := by decide +kernel
theorem dX10_areAlike_30 : decode cX10_areAlike 30 = .ok (.iconst 1, 1) := by decide +kernel
theorem dX10_areAlike_31 : decode cX10_areAlike 31 = .ok (.goto 4, 3) := by decide +kernel
theorem dX10_areAlike_34 : decode cX10_areAlike 34 = .ok (.iconst 0, 1) := by decide +kernel
theorem dX10_areAlike_35 : decode cX10_areAlike 35 = .ok (.istore_n 1, 1) := by decide +kernel
theorem dX10_areAlike_36 : decode cX10_areAlike 36 = .ok (.iinc 2 1, 3) := by decide +kernel
theorem dX10_areAlike_39 : decode cX10_areAlike 39 = .ok (.goto (-35), 3) := by decide +kernel
theorem dX10_areAlike_42 : decode cX10_areAlike 42 = .ok (.iload_n 1, 1) := by decide +kernel
theorem dX10_areAlike_43 : decode cX10_areAlike 43 = .ok (.ireturn, 1) := by decide +kernel
theorem dX10_isAlike_0 : decode cX10_isAlike 0 = .ok (.aload_n 0, 1) := by decide +kernel
theorem dX10_isAlike_1 : decode cX10_isAlike 1 = .ok (.iconst 0, 1) := by decide +kernel
theorem dX10_isAlike_2 : decode cX10_isAlike 2 = .ok (.putfield 54, 3) := by decide +kernel
theorem dX10_isAlike_5 : decode cX10_isAlike 5 = .ok (.aload_n 0, 1) := by decide +kernel
theorem dX10_isAlike_6 : decode cX10_isAlike 6 = .ok (.invokevirtual 313, 3) := by decide +kernel
theorem dX10_isAlike_9 : decode cX10_isAlike 9 = .ok (.ireturn, 1) := by decide +kernel
theorem dX10_difference_0 : decode cX10_difference 0 = .ok (.aload_n 0, 1) := by decide +kernel
theorem dX10_difference_1 : decode cX10_difference 1 = .ok (.iconst 0, 1) := by decide +kernel
theorem dX10_difference_2 : decode cX10_difference 2 = .ok (.putfield 54, 3) := by decide +kernel
theorem dX10_difference_5 : decode cX10_difference 5 = .ok (.aload_n 0, 1) := by decide +kernel
theorem dX10_difference_6 : decode cX10_difference 6 = .ok (.invokevirtual 307, 3) := by decide +kernel
theorem dX10_difference_9 : decode cX10_difference 9 = .ok (.ireturn, 1) := by decide +kernel
theorem dX10_beyond_0 : decode cX10_beyond 0 = .ok (.aload_n 0, 1) := by decide +kernel
theorem dX10_beyond_1 : decode cX10_beyond 1 = .ok (.iconst 2, 1) := by decide +kernel
theorem dX10_beyond_2 : decode cX10_beyond 2 = .ok (.iload_n 1, 1) := by decide +kernel
theorem dX10_beyond_3 : decode cX10_beyond 3 = .ok (.iload_n 2, 1) := by decide +kernel
theorem dX10_beyond_4 : decode cX10_beyond 4 = .ok (.invokevirtual 68, 3) := by decide +kernel
theorem dX10_beyond_7 : decode cX10_beyond 7 = .ok (.aload_n 0, 1) := by decide +kernel
theorem dX10_beyond_8 : decode cX10_beyond 8 = .ok (.bipush 66, 2) := by decide +kernel
theorem dX10_beyond_10 : decode cX10_beyond 10 = .ok (.iload_n 1, 1) := by decide +kernel
theorem dX10_beyond_11 : decode cX10_beyond 11 = .ok (.iload_n 2, 1) := by decide +kernel
theorem dX10_beyond_12 : decode cX10_beyond 12 = .ok (.invokevirtual 68, 3) := by decide +kernel
theorem dX10_beyond_15 : decode cX10_beyond 15 = .ok (.isub, 1) := by decide +kernel
theorem dX10_beyond_16 : decode cX10_beyond 16 = .ok (.ireturn, 1) := by decide +kernel
theorem dX10_firstLacking_0 : decode cX10_firstLacking 0 = .ok (.iconst 0, 1) := by decide +kernel
theorem dX10_firstLacking_1 : decode cX10_firstLacking 1 = .ok (.istore_n 1, 1) := by decide +kernel
theorem dX10_firstLacking_2 : decode cX10_firstLacking 2 = .ok (.iload_n 1, 1) := by decide +kernel
theorem dX10_firstLacking_3 : decode cX10_firstLacking 3 = .ok (.bipush 8, 2) := by decide +kernel
theorem dX10_firstLacking_5 : decode cX10_firstLacking 5 = .ok (.if_icmp .ge 39, 3) := by decide +kernel
theorem dX10_firstLacking_8 : decode cX10_firstLacking 8 = .ok (.iload_n 1, 1) := by decide +kernel
theorem dX10_firstLacking_9 : decode cX10_firstLacking 9 = .ok (.istore_n 2, 1) := by decide +kernel
theorem dX10_firstLacking_10 : decode cX10_firstLacking 10 = .ok (.iload_n 2, 1) := by decide +kernel
theorem dX10_firstLacking_11 : decode cX10_firstLacking 11 = .ok (.bipush 8, 2) := by decide +kernel
theorem dX10_firstLacking_13 : decode cX10_firstLacking 13 = .ok (.if_icmp .ge 25, 3) := by decide +kernel
theorem dX10_firstLacking_16 : decode cX10_firstLacking 16 = .ok (.aload_n 0, 1) := by decide +kernel
theorem dX10_firstLacking_17 : decode cX10_firstLacking 17 = .ok (.iload_n 1, 1) := by decide +kernel
theorem dX10_firstLacking_18 : decode cX10_firstLacking 18 = .ok (.iload_n 2, 1) := by decide +kernel
theorem dX10_firstLacking_19 : decode cX10_firstLacking 19 = .ok (.invokevirtual 316, 3) := by decide +kernel
theorem dX10_firstLacking_22 : decode cX10_firstLacking 22 = .ok (.ifCond .ge 10, 3) := by decide +kernel
theorem dX10_firstLacking_25 : decode cX10_firstLacking 25 = .ok (.bipush 8, 2) := by decide +kernel
theorem dX10_firstLacking_27 : decode cX10_firstLacking 27 = .ok (.iload_n 1, 1) := by decide +kernel
theorem dX10_firstLacking_28 : decode cX10_firstLacking 28 = .ok (.imul, 1) := by decide +kernel
theorem dX10_firstLacking_29 : decode cX10_firstLacking 29 = .ok (.iload_n 2, 1) := by decide +kernel
theorem dX10_firstLacking_30 : decode cX10_firstLacking 30 = .ok (.iadd, 1) := by decide +kernel
theorem dX10_firstLacking_31 : decode cX10_firstLacking 31 = .ok (.ireturn, 1) := by decide +kernel
theorem dX10_firstLacking_32 : decode cX10_firstLacking 32 = .ok (.iinc 2 1, 3) := by decide +kernel
theorem dX10_firstLacking_35 : decode cX10_firstLacking 35 = .ok (.goto (-25), 3) := by decide +kernel
theorem dX10_firstLacking_38 : decode cX10_firstLacking 38 = .ok (.iinc 1 1, 3) := by decide +kernel
theorem dX10_firstLacking_41 : decode cX10_firstLacking 41 = .ok (.goto (-39), 3) := by decide +kernel
theorem dX10_firstLacking_44 : decode cX10_firstLacking 44 = .ok (.iconst (-1), 1) := by decide +kernel
theorem dX10_firstLacking_45 : decode cX10_firstLacking 45 = .ok (.ireturn, 1) := by decide +kernel
theorem dX10_firstBeyond_0 : decode cX10_firstBeyond 0 = .ok (.iconst 0, 1) := by decide +kernel
theorem dX10_firstBeyond_1 : decode cX10_firstBeyond 1 = .ok (.istore 4, 2) := by decide +kernel
theorem dX10_firstBeyond_3 : decode cX10_firstBeyond 3 = .ok (.iload 4, 2) := by decide +kernel
theorem dX10_firstBeyond_5 : decode cX10_firstBeyond 5 = .ok (.bipush 8, 2) := by decide +kernel
theorem dX10_firstBeyond_7 : decode cX10_firstBeyond 7 = .ok (.if_icmp .ge 33, 3) := by decide +kernel
theorem dX10_firstBeyond_10 : decode cX10_firstBeyond 10 = .ok (.aload_n 0, 1) := by decide +kernel
theorem dX10_firstBeyond_11 : decode cX10_firstBeyond 11 = .ok (.iload_n 1, 1) := by decide +kernel
theorem dX10_firstBeyond_12 : decode cX10_firstBeyond 12 = .ok (.iload 4, 2) := by decide +kernel
theorem dX10_firstBeyond_14 : decode cX10_firstBeyond 14 = .ok (.invokevirtual 316, 3) := by decide +kernel
theorem dX10_firstBeyond_17 : decode cX10_firstBeyond 17 = .ok (.iload 4, 2) := by decide +kernel
theorem dX10_firstBeyond_19 : decode cX10_firstBeyond 19 = .ok (.iload_n 2, 1) := by decide +kernel
theorem dX10_firstBeyond_20 : decode cX10_firstBeyond 20 = .ok (.if_icmp .ne 7, 3) := by decide +kernel
theorem dX10_firstBeyond_23 : decode cX10_firstBeyond 23 = .ok (.iload_n 3, 1) := by decide +kernel
theorem dX10_firstBeyond_24 : decode cX10_firstBeyond 24 = .ok (.goto 4, 3) := by decide +kernel
theorem dX10_firstBeyond_27 : decode cX10_firstBeyond 27 = .ok (.iconst 1, 1) := by decide +kernel
theorem dX10_firstBeyond_28 : decode cX10_firstBeyond 28 = .ok (.if_icmp .lt 6, 3) := by decide +kernel
theorem dX10_firstBeyond_31 : decode cX10_firstBeyond 31 = .ok (.iload 4, 2) := by decide +kernel
theorem dX10_firstBeyond_33 : decode cX10_firstBeyond 33 = .ok (.ireturn, 1) := by decide +kernel
theorem dX10_firstBeyond_34 : decode cX10_firstBeyond 34 = .ok (.iinc 4 1, 3) := by decide +kernel
theorem dX10_firstBeyond_37 : decode cX10_firstBeyond 37 = .ok (.goto (-34), 3) := by decide +kernel
theorem dX10_firstBeyond_40 : decode cX10_firstBeyond 40 = .ok (.iconst (-1), 1) := by decide +kernel
theorem dX10_firstBeyond_41 : decode cX10_firstBeyond 41 = .ok (.ireturn, 1) := by decide +kernel
theorem dX10_goesPath_0 : decode cX10_goesPath 0 = .ok (.iconst 0, 1) := by decide +kernel
theorem dX10_goesPath_1 : decode cX10_goesPath 1 = .ok (.istore_n 1, 1) := by decide +kernel
theorem dX10_goesPath_2 : decode cX10_goesPath 2 = .ok (.aload_n 0, 1) := by decide +kernel
theorem dX10_goesPath_3 : decode cX10_goesPath 3 = .ok (.invokevirtual 319, 3) := by decide +kernel
theorem dX10_goesPath_6 : decode cX10_goesPath 6 = .ok (.istore_n 2, 1) := by decide +kernel
theorem dX10_goesPath_7 : decode cX10_goesPath 7 = .ok (.iload_n 2, 1) := by decide +kernel
theorem dX10_goesPath_8 : decode cX10_goesPath 8 = .ok (.iconst (-1), 1) := by decide +kernel
theorem dX10_goesPath_9 : decode cX10_goesPath 9 = .ok (.if_icmp .eq 82, 3) := by decide +kernel
theorem dX10_goesPath_12 : decode cX10_goesPath 12 = .ok (.iload_n 2, 1) := by decide +kernel
theorem dX10_goesPath_13 : decode cX10_goesPath 13 = .ok (.bipush 8, 2) := by decide +kernel
theorem dX10_goesPath_15 : decode cX10_goesPath 15 = .ok (.idiv, 1) := by decide +kernel
theorem dX10_goesPath_16 : decode cX10_goesPath 16 = .ok (.istore_n 3, 1) := by decide +kernel
theorem dX10_goesPath_17 : decode cX10_goesPath 17 = .ok (.iload_n 2, 1) := by decide +kernel
theorem dX10_goesPath_18 : decode cX10_goesPath 18 = .ok (.bipush 8, 2) := by decide +kernel
theorem dX10_goesPath_20 : decode cX10_goesPath 20 = .ok (.irem, 1) := by decide +kernel
theorem dX10_goesPath_21 : decode cX10_goesPath 21 = .ok (.istore 4, 2) := by decide +kernel
theorem dX10_goesPath_23 : decode cX10_goesPath 23 = .ok (.aload_n 0, 1) := by decide +kernel
theorem dX10_goesPath_24 : decode cX10_goesPath 24 = .ok (.iload_n 3, 1) := by decide +kernel
theorem dX10_goesPath_25 : decode cX10_goesPath 25 = .ok (.iconst (-1), 1) := by decide +kernel
theorem dX10_goesPath_26 : decode cX10_goesPath 26 = .ok (.iconst 1, 1) := by decide +kernel
theorem dX10_goesPath_27 : decode cX10_goesPath 27 = .ok (.invokevirtual 322, 3) := by decide +kernel
theorem dX10_goesPath_30 : decode cX10_goesPath 30 = .ok (.istore 5, 2) := by decide +kernel
theorem dX10_goesPath_32 : decode cX10_goesPath 32 = .ok (.aload_n 0, 1) := by decide +kernel
theorem dX10_goesPath_33 : decode cX10_goesPath 33 = .ok (.iload 4, 2) := by decide +kernel
theorem dX10_goesPath_35 : decode cX10_goesPath 35 = .ok (.iload_n 3, 1) := by decide +kernel
theorem dX10_goesPath_36 : decode cX10_goesPath 36 = .ok (.iload 4, 2) := by decide +kernel
theorem dX10_goesPath_38 : decode cX10_goesPath 38 = .ok (.if_icmp .ne 8, 3) := by decide +kernel
theorem dX10_goesPath_41 : decode cX10_goesPath 41 = .ok (.iload 5, 2) := by decide +kernel
theorem dX10_goesPath_43 : decode cX10_goesPath 43 = .ok (.goto 4, 3) := by decide +kernel
theorem dX10_goesPath_46 : decode cX10_goesPath 46 = .ok (.iconst (-1), 1) := by decide +kernel
theorem dX10_goesPath_47 : decode cX10_goesPath 47 = .ok (.iconst 2, 1) := by decide +kernel
theorem dX10_goesPath_48 : decode cX10_goesPath 48 = .ok (.invokevirtual 322, 3) := by decide +kernel
theorem dX10_goesPath_51 : decode cX10_goesPath 51 = .ok (.istore 6, 2) := by decide +kernel
theorem dX10_goesPath_53 : decode cX10_goesPath 53 = .ok (.aload_n 0, 1) := by decide +kernel
theorem dX10_goesPath_54 : decode cX10_goesPath 54 = .ok (.getfield 48, 3) := by decide +kernel
theorem dX10_goesPath_57 : decode cX10_goesPath 57 = .ok (.iload_n 1, 1) := by decide +kernel
theorem dX10_goesPath_58 : decode cX10_goesPath 58 = .ok (.iload_n 3, 1) := by decide +kernel
theorem dX10_goesPath_59 : decode cX10_goesPath 59 = .ok (.iload 5, 2) := by decide +kernel
theorem dX10_goesPath_61 : decode cX10_goesPath 61 = .ok (.iload 4, 2) := by decide +kernel
theorem dX10_goesPath_63 : decode cX10_goesPath 63 = .ok (.iload 6, 2) := by decide +kernel
theorem dX10_goesPath_65 : decode cX10_goesPath 65 = .ok (.invokestatic 287, 3) := by decide +kernel
theorem dX10_goesPath_68 : decode cX10_goesPath 68 = .ok (.iastore, 1) := by decide +kernel
theorem dX10_goesPath_69 : decode cX10_goesPath 69 = .ok (.aload_n 0, 1) := by decide +kernel
theorem dX10_goesPath_70 : decode cX10_goesPath 70 = .ok (.iload_n 3, 1) := by decide +kernel
theorem dX10_goesPath_71 : decode cX10_goesPath 71 = .ok (.iload 5, 2) := by decide +kernel
theorem dX10_goesPath_73 : decode cX10_goesPath 73 = .ok (.iload 4, 2) := by decide +kernel
theorem dX10_goesPath_75 : decode cX10_goesPath 75 = .ok (.iload 6, 2) := by decide +kernel
theorem dX10_goesPath_77 : decode cX10_goesPath 77 = .ok (.invokevirtual 281, 3) := by decide +kernel
theorem dX10_goesPath_80 : decode cX10_goesPath 80 = .ok (.iinc 1 1, 3) := by decide +kernel
theorem dX10_goesPath_83 : decode cX10_goesPath 83 = .ok (.aload_n 0, 1) := by decide +kernel
theorem dX10_goesPath_84 : decode cX10_goesPath 84 = .ok (.invokevirtual 319, 3) := by decide +kernel
theorem dX10_goesPath_87 : decode cX10_goesPath 87 = .ok (.istore_n 2, 1) := by decide +kernel
theorem dX10_goesPath_88 : decode cX10_goesPath 88 = .ok (.goto (-81), 3) := by decide +kernel
theorem dX10_goesPath_91 : decode cX10_goesPath 91 = .ok (.iload_n 1, 1) := by decide +kernel
theorem dX10_goesPath_92 : decode cX10_goesPath 92 = .ok (.ireturn, 1) := by decide +kernel
theorem dX10_laysPath_0 : decode cX10_laysPath 0 = .ok (.aload_n 0, 1) := by decide +kernel
theorem dX10_laysPath_1 : decode cX10_laysPath 1 = .ok (.invokevirtual 191, 3) := by decide +kernel
theorem dX10_laysPath_4 : decode cX10_laysPath 4 = .ok (.aload_n 0, 1) := by decide +kernel
theorem dX10_laysPath_5 : decode cX10_laysPath 5 = .ok (.invokevirtual 325, 3) := by decide +kernel
theorem dX10_laysPath_8 : decode cX10_laysPath 8 = .ok (.istore_n 1, 1) := by decide +kernel
theorem dX10_laysPath_9 : decode cX10_laysPath 9 = .ok (.aload_n 0, 1) := by decide +kernel
theorem dX10_laysPath_10 : decode cX10_laysPath 10 = .ok (.invokevirtual 200, 3) := by decide +kernel
theorem dX10_laysPath_13 : decode cX10_laysPath 13 = .ok (.iload_n 1, 1) := by decide +kernel
theorem dX10_laysPath_14 : decode cX10_laysPath 14 = .ok (.ireturn, 1) := by decide +kernel
theorem dX10_pathLength_0 : decode cX10_pathLength 0 = .ok (.aload_n 0, 1) := by decide +kernel
theorem dX10_pathLength_1 : decode cX10_pathLength 1 = .ok (.aload_n 0, 1) := by decide +kernel
theorem dX10_pathLength_2 : decode cX10_pathLength 2 = .ok (.invokevirtual 313, 3) := by decide +kernel
theorem dX10_pathLength_5 : decode cX10_pathLength 5 = .ok (.invokevirtual 188, 3) := by decide +kernel
theorem dX10_pathLength_8 : decode cX10_pathLength 8 = .ok (.ifCond .eq 10, 3) := by decide +kernel
theorem dX10_pathLength_11 : decode cX10_pathLength 11 = .ok (.aload_n 0, 1) := by decide +kernel
theorem dX10_pathLength_12 : decode cX10_pathLength 12 = .ok (.invokevirtual 328, 3) := by decide +kernel
theorem dX10_pathLength_15 : decode cX10_pathLength 15 = .ok (.goto 4, 3) := by decide +kernel
theorem dX10_pathLength_18 : decode cX10_pathLength 18 = .ok (.iconst 0, 1) := by decide +kernel
theorem dX10_pathLength_19 : decode cX10_pathLength 19 = .ok (.ireturn, 1) := by decide +kernel
theorem dX10_path_0 : decode cX10_path 0 = .ok (.aload_n 0, 1) := by decide +kernel
theorem dX10_path_1 : decode cX10_path 1 = .ok (.invokevirtual 313, 3) := by decide +kernel
theorem dX10_path_4 : decode cX10_path 4 = .ok (.istore_n 3, 1) := by decide +kernel
theorem dX10_path_5 : decode cX10_path 5 = .ok (.iload_n 3, 1) := by decide +kernel
theorem dX10_path_6 : decode cX10_path 6 = .ok (.ifCond .eq 10, 3) := by decide +kernel
theorem dX10_path_9 : decode cX10_path 9 = .ok (.aload_n 0, 1) := by decide +kernel
theorem dX10_path_10 : decode cX10_path 10 = .ok (.invokevirtual 328, 3) := by decide +kernel
theorem dX10_path_13 : decode cX10_path 13 = .ok (.goto 4, 3) := by decide +kernel
theorem dX10_path_16 : decode cX10_path 16 = .ok (.iconst 0, 1) := by decide +kernel
theorem dX10_path_17 : decode cX10_path 17 = .ok (.istore 4, 2) := by decide +kernel
theorem dX10_path_19 : decode cX10_path 19 = .ok (.aload_n 0, 1) := by decide +kernel
theorem dX10_path_20 : decode cX10_path 20 = .ok (.iload_n 3, 1) := by decide +kernel
theorem dX10_path_21 : decode cX10_path 21 = .ok (.iload_n 1, 1) := by decide +kernel
theorem dX10_path_22 : decode cX10_path 22 = .ok (.iconst 0, 1) := by decide +kernel
theorem dX10_path_23 : decode cX10_path 23 = .ok (.iload 4, 2) := by decide +kernel
theorem dX10_path_25 : decode cX10_path 25 = .ok (.iconst 1, 1) := by decide +kernel
theorem dX10_path_26 : decode cX10_path 26 = .ok (.isub, 1) := by decide +kernel
theorem dX10_path_27 : decode cX10_path 27 = .ok (.invokestatic 128, 3) := by decide +kernel
theorem dX10_path_30 : decode cX10_path 30 = .ok (.iload_n 2, 1) := by decide +kernel
theorem dX10_path_31 : decode cX10_path 31 = .ok (.iconst 0, 1) := by decide +kernel
theorem dX10_path_32 : decode cX10_path 32 = .ok (.iconst 3, 1) := by decide +kernel
theorem dX10_path_33 : decode cX10_path 33 = .ok (.invokestatic 128, 3) := by decide +kernel
theorem dX10_path_36 : decode cX10_path 36 = .ok (.invokevirtual 57, 3) := by decide +kernel
theorem dX10_path_39 : decode cX10_path 39 = .ok (.ifCond .eq 16, 3) := by decide +kernel
theorem dX10_path_42 : decode cX10_path 42 = .ok (.aload_n 0, 1) := by decide +kernel
theorem dX10_path_43 : decode cX10_path 43 = .ok (.getfield 48, 3) := by decide +kernel
theorem dX10_path_46 : decode cX10_path 46 = .ok (.iload_n 1, 1) := by decide +kernel
theorem dX10_path_47 : decode cX10_path 47 = .ok (.iaload, 1) := by decide +kernel
theorem dX10_path_48 : decode cX10_path 48 = .ok (.iload_n 2, 1) := by decide +kernel
theorem dX10_path_49 : decode cX10_path 49 = .ok (.invokestatic 278, 3) := by decide +kernel
theorem dX10_path_52 : decode cX10_path 52 = .ok (.goto 4, 3) := by decide +kernel
theorem dX10_path_55 : decode cX10_path 55 = .ok (.iconst 0, 1) := by decide +kernel
theorem dX10_path_56 : decode cX10_path 56 = .ok (.ireturn, 1) := by decide +kernel
theorem dX10_isOneAway_0 : decode cX10_isOneAway 0 = .ok (.aload_n 0, 1) := by decide +kernel
theorem dX10_isOneAway_1 : decode cX10_isOneAway 1 = .ok (.invokevirtual 307, 3) := by decide +kernel
theorem dX10_isOneAway_4 : decode cX10_isOneAway 4 = .ok (.iconst 2, 1) := by decide +kernel
theorem dX10_isOneAway_5 : decode cX10_isOneAway 5 = .ok (.if_icmp .le 5, 3) := by decide +kernel
theorem dX10_isOneAway_8 : decode cX10_isOneAway 8 = .ok (.iconst 0, 1) := by decide +kernel
theorem dX10_isOneAway_9 : decode cX10_isOneAway 9 = .ok (.ireturn, 1) := by decide +kernel
theorem dX10_isOneAway_10 : decode cX10_isOneAway 10 = .ok (.iconst 0, 1) := by decide +kernel
theorem dX10_isOneAway_11 : decode cX10_isOneAway 11 = .ok (.istore_n 1, 1) := by decide +kernel
theorem dX10_isOneAway_12 : decode cX10_isOneAway 12 = .ok (.iload_n 1, 1) := by decide +kernel
theorem dX10_isOneAway_13 : decode cX10_isOneAway 13 = .ok (.sipush 4096, 3) := by decide +kernel
theorem dX10_isOneAway_16 : decode cX10_isOneAway 16 = .ok (.if_icmp .ge 105, 3) := by decide +kernel
theorem dX10_isOneAway_19 : decode cX10_isOneAway 19 = .ok (.iload_n 1, 1) := by decide +kernel
theorem dX10_isOneAway_20 : decode cX10_isOneAway 20 = .ok (.iconst 0, 1) := by decide +kernel
theorem dX10_isOneAway_21 : decode cX10_isOneAway 21 = .ok (.invokestatic 278, 3) := by decide +kernel
theorem dX10_isOneAway_24 : decode cX10_isOneAway 24 = .ok (.istore_n 2, 1) := by decide +kernel
theorem dX10_isOneAway_25 : decode cX10_isOneAway 25 = .ok (.iload_n 1, 1) := by decide +kernel
theorem dX10_isOneAway_26 : decode cX10_isOneAway 26 = .ok (.iconst 1, 1) := by decide +kernel
theorem dX10_isOneAway_27 : decode cX10_isOneAway 27 = .ok (.invokestatic 278, 3) := by decide +kernel
theorem dX10_isOneAway_30 : decode cX10_isOneAway 30 = .ok (.istore_n 3, 1) := by decide +kernel
theorem dX10_isOneAway_31 : decode cX10_isOneAway 31 = .ok (.iload_n 1, 1) := by decide +kernel
theorem dX10_isOneAway_32 : decode cX10_isOneAway 32 = .ok (.iconst 2, 1) := by decide +kernel
theorem dX10_isOneAway_33 : decode cX10_isOneAway 33 = .ok (.invokestatic 278, 3) := by decide +kernel
theorem dX10_isOneAway_36 : decode cX10_isOneAway 36 = .ok (.istore 4, 2) := by decide +kernel
theorem dX10_isOneAway_38 : decode cX10_isOneAway 38 = .ok (.iload_n 1, 1) := by decide +kernel
theorem dX10_isOneAway_39 : decode cX10_isOneAway 39 = .ok (.iconst 3, 1) := by decide +kernel
theorem dX10_isOneAway_40 : decode cX10_isOneAway 40 = .ok (.invokestatic 278, 3) := by decide +kernel
theorem dX10_isOneAway_43 : decode cX10_isOneAway 43 = .ok (.istore 5, 2) := by decide +kernel
theorem dX10_isOneAway_45 : decode cX10_isOneAway 45 = .ok (.iload_n 2, 1) := by decide +kernel
theorem dX10_isOneAway_46 : decode cX10_isOneAway 46 = .ok (.iload_n 3, 1) := by decide +kernel
theorem dX10_isOneAway_47 : decode cX10_isOneAway 47 = .ok (.iload 4, 2) := by decide +kernel
theorem dX10_isOneAway_49 : decode cX10_isOneAway 49 = .ok (.iload 5, 2) := by decide +kernel
theorem dX10_isOneAway_51 : decode cX10_isOneAway 51 = .ok (.invokestatic 291, 3) := by decide +kernel
theorem dX10_isOneAway_54 : decode cX10_isOneAway 54 = .ok (.ifCond .eq 61, 3) := by decide +kernel
theorem dX10_isOneAway_57 : decode cX10_isOneAway 57 = .ok (.aload_n 0, 1) := by decide +kernel
theorem dX10_isOneAway_58 : decode cX10_isOneAway 58 = .ok (.iconst 0, 1) := by decide +kernel
theorem dX10_isOneAway_59 : decode cX10_isOneAway 59 = .ok (.iload_n 2, 1) := by decide +kernel
theorem dX10_isOneAway_60 : decode cX10_isOneAway 60 = .ok (.iload_n 3, 1) := by decide +kernel
theorem dX10_isOneAway_61 : decode cX10_isOneAway 61 = .ok (.iload 4, 2) := by decide +kernel
theorem dX10_isOneAway_63 : decode cX10_isOneAway 63 = .ok (.iload 5, 2) := by decide +kernel
theorem dX10_isOneAway_65 : decode cX10_isOneAway 65 = .ok (.invokevirtual 294, 3) := by decide +kernel
theorem dX10_isOneAway_68 : decode cX10_isOneAway 68 = .ok (.ifCond .eq 6, 3) := by decide +kernel
theorem dX10_isOneAway_71 : decode cX10_isOneAway 71 = .ok (.goto 44, 3) := by decide +kernel
theorem dX10_isOneAway_74 : decode cX10_isOneAway 74 = .ok (.aload_n 0, 1) := by decide +kernel
theorem dX10_isOneAway_75 : decode cX10_isOneAway 75 = .ok (.iload_n 2, 1) := by decide +kernel
theorem dX10_isOneAway_76 : decode cX10_isOneAway 76 = .ok (.iload_n 3, 1) := by decide +kernel
theorem dX10_isOneAway_77 : decode cX10_isOneAway 77 = .ok (.iload 4, 2) := by decide +kernel
theorem dX10_isOneAway_79 : decode cX10_isOneAway 79 = .ok (.iload 5, 2) := by decide +kernel
theorem dX10_isOneAway_81 : decode cX10_isOneAway 81 = .ok (.invokevirtual 281, 3) := by decide +kernel
theorem dX10_isOneAway_84 : decode cX10_isOneAway 84 = .ok (.aload_n 0, 1) := by decide +kernel
theorem dX10_isOneAway_85 : decode cX10_isOneAway 85 = .ok (.invokevirtual 307, 3) := by decide +kernel
theorem dX10_isOneAway_88 : decode cX10_isOneAway 88 = .ok (.ifCond .ne 7, 3) := by decide +kernel
theorem dX10_isOneAway_91 : decode cX10_isOneAway 91 = .ok (.iconst 1, 1) := by decide +kernel
theorem dX10_isOneAway_92 : decode cX10_isOneAway 92 = .ok (.goto 4, 3) := by decide +kernel
theorem dX10_isOneAway_95 : decode cX10_isOneAway 95 = .ok (.iconst 0, 1) := by decide +kernel
theorem dX10_isOneAway_96 : decode cX10_isOneAway 96 = .ok (.istore 6, 2) := by decide +kernel
theorem dX10_isOneAway_98 : decode cX10_isOneAway 98 = .ok (.aload_n 0, 1) := by decide +kernel
theorem dX10_isOneAway_99 : decode cX10_isOneAway 99 = .ok (.iload_n 2, 1) := by decide +kernel
theorem dX10_isOneAway_100 : decode cX10_isOneAway 100 = .ok (.iload_n 3, 1) := by decide +kernel
theorem dX10_isOneAway_101 : decode cX10_isOneAway 101 = .ok (.iload 4, 2) := by decide +kernel
theorem dX10_isOneAway_103 : decode cX10_isOneAway 103 = .ok (.iload 5, 2) := by decide +kernel
theorem dX10_isOneAway_105 : decode cX10_isOneAway 105 = .ok (.invokevirtual 284, 3) := by decide +kernel
theorem dX10_isOneAway_108 : decode cX10_isOneAway 108 = .ok (.iload 6, 2) := by decide +kernel
theorem dX10_isOneAway_110 : decode cX10_isOneAway 110 = .ok (.ifCond .eq 5, 3) := by decide +kernel
theorem dX10_isOneAway_113 : decode cX10_isOneAway 113 = .ok (.iconst 1, 1) := by decide +kernel
theorem dX10_isOneAway_114 : decode cX10_isOneAway 114 = .ok (.ireturn, 1) := by decide +kernel
theorem dX10_isOneAway_115 : decode cX10_isOneAway 115 = .ok (.iinc 1 1, 3) := by decide +kernel
theorem dX10_isOneAway_118 : decode cX10_isOneAway 118 = .ok (.goto (-106), 3) := by decide +kernel
theorem dX10_isOneAway_121 : decode cX10_isOneAway 121 = .ok (.iconst 0, 1) := by decide +kernel
theorem dX10_isOneAway_122 : decode cX10_isOneAway 122 = .ok (.ireturn, 1) := by decide +kernel
theorem dX10_isTwoAway_0 : decode cX10_isTwoAway 0 = .ok (.aload_n 0, 1) := by decide +kernel
theorem dX10_isTwoAway_1 : decode cX10_isTwoAway 1 = .ok (.invokevirtual 307, 3) := by decide +kernel
theorem dX10_isTwoAway_4 : decode cX10_isTwoAway 4 = .ok (.iconst 4, 1) := by decide +kernel
theorem dX10_isTwoAway_5 : decode cX10_isTwoAway 5 = .ok (.if_icmp .le 7, 3) := by decide +kernel
theorem dX10_isTwoAway_8 : decode cX10_isTwoAway 8 = .ok (.iconst 0, 1) := by decide +kernel
theorem dX10_isTwoAway_9 : decode cX10_isTwoAway 9 = .ok (.goto 8, 3) := by decide +kernel
theorem dX10_isTwoAway_12 : decode cX10_isTwoAway 12 = .ok (.aload_n 0, 1) := by decide +kernel
theorem dX10_isTwoAway_13 : decode cX10_isTwoAway 13 = .ok (.iconst 0, 1) := by decide +kernel
theorem dX10_isTwoAway_14 : decode cX10_isTwoAway 14 = .ok (.invokevirtual 298, 3) := by decide +kernel
theorem dX10_isTwoAway_17 : decode cX10_isTwoAway 17 = .ok (.istore_n 1, 1) := by decide +kernel
theorem dX10_isTwoAway_18 : decode cX10_isTwoAway 18 = .ok (.iconst 0, 1) := by decide +kernel
theorem dX10_isTwoAway_19 : decode cX10_isTwoAway 19 = .ok (.istore_n 2, 1) := by decide +kernel
theorem dX10_isTwoAway_20 : decode cX10_isTwoAway 20 = .ok (.iconst 0, 1) := by decide +kernel
theorem dX10_isTwoAway_21 : decode cX10_isTwoAway 21 = .ok (.istore_n 3, 1) := by decide +kernel
theorem dX10_isTwoAway_22 : decode cX10_isTwoAway 22 = .ok (.iload_n 3, 1) := by decide +kernel
theorem dX10_isTwoAway_23 : decode cX10_isTwoAway 23 = .ok (.iload_n 1, 1) := by decide +kernel
theorem dX10_isTwoAway_24 : decode cX10_isTwoAway 24 = .ok (.if_icmp .ge 38, 3) := by decide +kernel
theorem dX10_isTwoAway_27 : decode cX10_isTwoAway 27 = .ok (.iload_n 2, 1) := by decide +kernel
theorem dX10_isTwoAway_28 : decode cX10_isTwoAway 28 = .ok (.ifCond .ne 34, 3) := by decide +kernel
theorem dX10_isTwoAway_31 : decode cX10_isTwoAway 31 = .ok (.aload_n 0, 1) := by decide +kernel
theorem dX10_isTwoAway_32 : decode cX10_isTwoAway 32 = .ok (.aload_n 0, 1) := by decide +kernel
theorem dX10_isTwoAway_33 : decode cX10_isTwoAway 33 = .ok (.getfield 45, 3) := by decide +kernel
theorem dX10_isTwoAway_36 : decode cX10_isTwoAway 36 = .ok (.iload_n 3, 1) := by decide +kernel
theorem dX10_isTwoAway_37 : decode cX10_isTwoAway 37 = .ok (.iaload, 1) := by decide +kernel
theorem dX10_isTwoAway_38 : decode cX10_isTwoAway 38 = .ok (.invokevirtual 304, 3) := by decide +kernel
theorem dX10_isTwoAway_41 : decode cX10_isTwoAway 41 = .ok (.aload_n 0, 1) := by decide +kernel
theorem dX10_isTwoAway_42 : decode cX10_isTwoAway 42 = .ok (.invokevirtual 331, 3) := by decide +kernel
theorem dX10_isTwoAway_45 : decode cX10_isTwoAway 45 = .ok (.istore_n 2, 1) := by decide +kernel
theorem dX10_isTwoAway_46 : decode cX10_isTwoAway 46 = .ok (.aload_n 0, 1) := by decide +kernel
theorem dX10_isTwoAway_47 : decode cX10_isTwoAway 47 = .ok (.aload_n 0, 1) := by decide +kernel
theorem dX10_isTwoAway_48 : decode cX10_isTwoAway 48 = .ok (.getfield 45, 3) := by decide +kernel
theorem dX10_isTwoAway_51 : decode cX10_isTwoAway 51 = .ok (.iload_n 3, 1) := by decide +kernel
theorem dX10_isTwoAway_52 : decode cX10_isTwoAway 52 = .ok (.iaload, 1) := by decide +kernel
theorem dX10_isTwoAway_53 : decode cX10_isTwoAway 53 = .ok (.invokevirtual 310, 3) := by decide +kernel
theorem dX10_isTwoAway_56 : decode cX10_isTwoAway 56 = .ok (.iinc 3 1, 3) := by decide +kernel
theorem dX10_isTwoAway_59 : decode cX10_isTwoAway 59 = .ok (.goto (-37), 3) := by decide +kernel
theorem dX10_isTwoAway_62 : decode cX10_isTwoAway 62 = .ok (.iload_n 2, 1) := by decide +kernel
theorem dX10_isTwoAway_63 : decode cX10_isTwoAway 63 = .ok (.ireturn, 1) := by decide +kernel
theorem dX10_distance_0 : decode cX10_distance 0 = .ok (.aload_n 0, 1) := by decide +kernel
theorem dX10_distance_1 : decode cX10_distance 1 = .ok (.aload_n 0, 1) := by decide +kernel
theorem dX10_distance_2 : decode cX10_distance 2 = .ok (.invokevirtual 313, 3) := by decide +kernel
theorem dX10_distance_5 : decode cX10_distance 5 = .ok (.invokevirtual 188, 3) := by decide +kernel
theorem dX10_distance_8 : decode cX10_distance 8 = .ok (.ifCond .eq 10, 3) := by decide +kernel
theorem dX10_distance_11 : decode cX10_distance 11 = .ok (.aload_n 0, 1) := by decide +kernel
theorem dX10_distance_12 : decode cX10_distance 12 = .ok (.invokevirtual 307, 3) := by decide +kernel
theorem dX10_distance_15 : decode cX10_distance 15 = .ok (.ifCond .ne 5, 3) := by decide +kernel
theorem dX10_distance_18 : decode cX10_distance 18 = .ok (.iconst 0, 1) := by decide +kernel
theorem dX10_distance_19 : decode cX10_distance 19 = .ok (.ireturn, 1) := by decide +kernel
theorem dX10_distance_20 : decode cX10_distance 20 = .ok (.aload_n 0, 1) := by decide +kernel
theorem dX10_distance_21 : decode cX10_distance 21 = .ok (.invokevirtual 331, 3) := by decide +kernel
theorem dX10_distance_24 : decode cX10_distance 24 = .ok (.ifCond .eq 5, 3) := by decide +kernel
theorem dX10_distance_27 : decode cX10_distance 27 = .ok (.iconst 1, 1) := by decide +kernel
theorem dX10_distance_28 : decode cX10_distance 28 = .ok (.ireturn, 1) := by decide +kernel
theorem dX10_distance_29 : decode cX10_distance 29 = .ok (.aload_n 0, 1) := by decide +kernel
theorem dX10_distance_30 : decode cX10_distance 30 = .ok (.invokevirtual 334, 3) := by decide +kernel
theorem dX10_distance_33 : decode cX10_distance 33 = .ok (.ifCond .eq 7, 3) := by decide +kernel
theorem dX10_distance_36 : decode cX10_distance 36 = .ok (.iconst 2, 1) := by decide +kernel
theorem dX10_distance_37 : decode cX10_distance 37 = .ok (.goto 4, 3) := by decide +kernel
theorem dX10_distance_40 : decode cX10_distance 40 = .ok (.iconst 3, 1) := by decide +kernel
theorem dX10_distance_41 : decode cX10_distance 41 = .ok (.ireturn, 1) := by decide +kernel
theorem dX10_addEdge_0 : decode cX10_addEdge 0 = .ok (.aload_n 0, 1) := by decide +kernel
theorem dX10_addEdge_1 : decode cX10_addEdge 1 = .ok (.aload_n 0, 1) := by decide +kernel
theorem dX10_addEdge_2 : decode cX10_addEdge 2 = .ok (.iload_n 1, 1) := by decide +kernel
theorem dX10_addEdge_3 : decode cX10_addEdge 3 = .ok (.iload_n 2, 1) := by decide +kernel
theorem dX10_addEdge_4 : decode cX10_addEdge 4 = .ok (.invokevirtual 210, 3) := by decide +kernel
theorem dX10_addEdge_7 : decode cX10_addEdge 7 = .ok (.aload_n 0, 1) := by decide +kernel
theorem dX10_addEdge_8 : decode cX10_addEdge 8 = .ok (.iconst 2, 1) := by decide +kernel
theorem dX10_addEdge_9 : decode cX10_addEdge 9 = .ok (.invokevirtual 146, 3) := by decide +kernel
theorem dX10_addEdge_12 : decode cX10_addEdge 12 = .ok (.bipush 16, 2) := by decide +kernel
theorem dX10_addEdge_14 : decode cX10_addEdge 14 = .ok (.if_icmp .ge 7, 3) := by decide +kernel
theorem dX10_addEdge_17 : decode cX10_addEdge 17 = .ok (.iconst 1, 1) := by decide +kernel
theorem dX10_addEdge_18 : decode cX10_addEdge 18 = .ok (.goto 4, 3) := by decide +kernel
theorem dX10_addEdge_21 : decode cX10_addEdge 21 = .ok (.iconst 0, 1) := by decide +kernel
theorem dX10_addEdge_22 : decode cX10_addEdge 22 = .ok (.invokevirtual 244, 3) := by decide +kernel
theorem dX10_addEdge_25 : decode cX10_addEdge 25 = .ok (.ifCond .ne 5, 3) := by decide +kernel
theorem dX10_addEdge_28 : decode cX10_addEdge 28 = .ok (.iconst 0, 1) := by decide +kernel
theorem dX10_addEdge_29 : decode cX10_addEdge 29 = .ok (.ireturn, 1) := by decide +kernel
theorem dX10_addEdge_30 : decode cX10_addEdge 30 = .ok (.aload_n 0, 1) := by decide +kernel
theorem dX10_addEdge_31 : decode cX10_addEdge 31 = .ok (.invokevirtual 337, 3) := by decide +kernel
theorem dX10_addEdge_34 : decode cX10_addEdge 34 = .ok (.aload_n 0, 1) := by decide +kernel
theorem dX10_addEdge_35 : decode cX10_addEdge 35 = .ok (.iconst 2, 1) := by decide +kernel
theorem dX10_addEdge_36 : decode cX10_addEdge 36 = .ok (.iload_n 1, 1) := by decide +kernel
theorem dX10_addEdge_37 : decode cX10_addEdge 37 = .ok (.iload_n 2, 1) := by decide +kernel
theorem dX10_addEdge_38 : decode cX10_addEdge 38 = .ok (.iconst 1, 1) := by decide +kernel
theorem dX10_addEdge_39 : decode cX10_addEdge 39 = .ok (.invokevirtual 149, 3) := by decide +kernel
theorem dX10_addEdge_42 : decode cX10_addEdge 42 = .ok (.aload_n 0, 1) := by decide +kernel
theorem dX10_addEdge_43 : decode cX10_addEdge 43 = .ok (.iconst 2, 1) := by decide +kernel
theorem dX10_addEdge_44 : decode cX10_addEdge 44 = .ok (.iload_n 1, 1) := by decide +kernel
theorem dX10_addEdge_45 : decode cX10_addEdge 45 = .ok (.iload_n 2, 1) := by decide +kernel
theorem dX10_addEdge_46 : decode cX10_addEdge 46 = .ok (.invokevirtual 68, 3) := by decide +kernel
theorem dX10_addEdge_49 : decode cX10_addEdge 49 = .ok (.ireturn, 1) := by decide +kernel
theorem dX10_removeEdge_0 : decode cX10_removeEdge 0 = .ok (.aload_n 0, 1) := by decide +kernel
theorem dX10_removeEdge_1 : decode cX10_removeEdge 1 = .ok (.iload_n 1, 1) := by decide +kernel
theorem dX10_removeEdge_2 : decode cX10_removeEdge 2 = .ok (.iload_n 2, 1) := by decide +kernel
theorem dX10_removeEdge_3 : decode cX10_removeEdge 3 = .ok (.invokevirtual 210, 3) := by decide +kernel
theorem dX10_removeEdge_6 : decode cX10_removeEdge 6 = .ok (.istore_n 3, 1) := by decide +kernel
theorem dX10_removeEdge_7 : decode cX10_removeEdge 7 = .ok (.aload_n 0, 1) := by decide +kernel
theorem dX10_removeEdge_8 : decode cX10_removeEdge 8 = .ok (.iload_n 3, 1) := by decide +kernel
theorem dX10_removeEdge_9 : decode cX10_removeEdge 9 = .ok (.iload_n 3, 1) := by decide +kernel
theorem dX10_removeEdge_10 : decode cX10_removeEdge 10 = .ok (.ifCond .eq 17, 3) := by decide +kernel
theorem dX10_removeEdge_13 : decode cX10_removeEdge 13 = .ok (.aload_n 0, 1) := by decide +kernel
theorem dX10_removeEdge_14 : decode cX10_removeEdge 14 = .ok (.iconst 2, 1) := by decide +kernel
theorem dX10_removeEdge_15 : decode cX10_removeEdge 15 = .ok (.iload_n 1, 1) := by decide +kernel
theorem dX10_removeEdge_16 : decode cX10_removeEdge 16 = .ok (.iload_n 2, 1) := by decide +kernel
theorem dX10_removeEdge_17 : decode cX10_removeEdge 17 = .ok (.invokevirtual 68, 3) := by decide +kernel
theorem dX10_removeEdge_20 : decode cX10_removeEdge 20 = .ok (.ifCond .le 7, 3) := by decide +kernel
theorem dX10_removeEdge_23 : decode cX10_removeEdge 23 = .ok (.iconst 1, 1) := by decide +kernel
theorem dX10_removeEdge_24 : decode cX10_removeEdge 24 = .ok (.goto 4, 3) := by decide +kernel
theorem dX10_removeEdge_27 : decode cX10_removeEdge 27 = .ok (.iconst 0, 1) := by decide +kernel
theorem dX10_removeEdge_28 : decode cX10_removeEdge 28 = .ok (.invokevirtual 244, 3) := by decide +kernel
theorem dX10_removeEdge_31 : decode cX10_removeEdge 31 = .ok (.ifCond .ne 5, 3) := by decide +kernel
theorem dX10_removeEdge_34 : decode cX10_removeEdge 34 = .ok (.iconst 0, 1) := by decide +kernel
theorem dX10_removeEdge_35 : decode cX10_removeEdge 35 = .ok (.ireturn, 1) := by decide +kernel
theorem dX10_removeEdge_36 : decode cX10_removeEdge 36 = .ok (.aload_n 0, 1) := by decide +kernel
theorem dX10_removeEdge_37 : decode cX10_removeEdge 37 = .ok (.invokevirtual 337, 3) := by decide +kernel
theorem dX10_removeEdge_40 : decode cX10_removeEdge 40 = .ok (.aload_n 0, 1) := by decide +kernel
theorem dX10_removeEdge_41 : decode cX10_removeEdge 41 = .ok (.iconst 2, 1) := by decide +kernel
theorem dX10_removeEdge_42 : decode cX10_removeEdge 42 = .ok (.iload_n 1, 1) := by decide +kernel
theorem dX10_removeEdge_43 : decode cX10_removeEdge 43 = .ok (.iload_n 2, 1) := by decide +kernel
theorem dX10_removeEdge_44 : decode cX10_removeEdge 44 = .ok (.iconst (-1), 1) := by decide +kernel
theorem dX10_removeEdge_45 : decode cX10_removeEdge 45 = .ok (.invokevirtual 149, 3) := by decide +kernel
theorem dX10_removeEdge_48 : decode cX10_removeEdge 48 = .ok (.aload_n 0, 1) := by decide +kernel
theorem dX10_removeEdge_49 : decode cX10_removeEdge 49 = .ok (.iconst 2, 1) := by decide +kernel
theorem dX10_removeEdge_50 : decode cX10_removeEdge 50 = .ok (.iload_n 1, 1) := by decide +kernel
theorem dX10_removeEdge_51 : decode cX10_removeEdge 51 = .ok (.iload_n 2, 1) := by decide +kernel
theorem dX10_removeEdge_52 : decode cX10_removeEdge 52 = .ok (.invokevirtual 68, 3) := by decide +kernel
theorem dX10_removeEdge_55 : decode cX10_removeEdge 55 = .ok (.ireturn, 1) := by decide +kernel
theorem dX10_switchEdges_0 : decode cX10_switchEdges 0 = .ok (.aload_n 0, 1) := by decide +kernel
theorem dX10_switchEdges_1 : decode cX10_switchEdges 1 = .ok (.iload_n 1, 1) := by decide +kernel
theorem dX10_switchEdges_2 : decode cX10_switchEdges 2 = .ok (.iload_n 2, 1) := by decide +kernel
theorem dX10_switchEdges_3 : decode cX10_switchEdges 3 = .ok (.iload_n 3, 1) := by decide +kernel
theorem dX10_switchEdges_4 : decode cX10_switchEdges 4 = .ok (.iload 4, 2) := by decide +kernel
theorem dX10_switchEdges_6 : decode cX10_switchEdges 6 = .ok (.invokevirtual 301, 3) := by decide +kernel
theorem dX10_switchEdges_9 : decode cX10_switchEdges 9 = .ok (.ifCond .ne 5, 3) := by decide +kernel
theorem dX10_switchEdges_12 : decode cX10_switchEdges 12 = .ok (.iconst 0, 1) := by decide +kernel
theorem dX10_switchEdges_13 : decode cX10_switchEdges 13 = .ok (.ireturn, 1) := by decide +kernel
theorem dX10_switchEdges_14 : decode cX10_switchEdges 14 = .ok (.aload_n 0, 1) := by decide +kernel
theorem dX10_switchEdges_15 : decode cX10_switchEdges 15 = .ok (.invokevirtual 337, 3) := by decide +kernel
theorem dX10_switchEdges_18 : decode cX10_switchEdges 18 = .ok (.aload_n 0, 1) := by decide +kernel
theorem dX10_switchEdges_19 : decode cX10_switchEdges 19 = .ok (.iload_n 1, 1) := by decide +kernel
theorem dX10_switchEdges_20 : decode cX10_switchEdges 20 = .ok (.iload_n 2, 1) := by decide +kernel
theorem dX10_switchEdges_21 : decode cX10_switchEdges 21 = .ok (.iload_n 3, 1) := by decide +kernel
theorem dX10_switchEdges_22 : decode cX10_switchEdges 22 = .ok (.iload 4, 2) := by decide +kernel
theorem dX10_switchEdges_24 : decode cX10_switchEdges 24 = .ok (.invokevirtual 281, 3) := by decide +kernel
theorem dX10_switchEdges_27 : decode cX10_switchEdges 27 = .ok (.aload_n 0, 1) := by decide +kernel
theorem dX10_switchEdges_28 : decode cX10_switchEdges 28 = .ok (.invokevirtual 225, 3) := by decide +kernel
theorem dX10_switchEdges_31 : decode cX10_switchEdges 31 = .ok (.ireturn, 1) := by decide +kernel
theorem dX10_realise_0 : decode cX10_realise 0 = .ok (.aload_n 0, 1) := by decide +kernel
theorem dX10_realise_1 : decode cX10_realise 1 = .ok (.iload_n 1, 1) := by decide +kernel
theorem dX10_realise_2 : decode cX10_realise 2 = .ok (.iconst 0, 1) := by decide +kernel
theorem dX10_realise_3 : decode cX10_realise 3 = .ok (.iconst 2, 1) := by decide +kernel
theorem dX10_realise_4 : decode cX10_realise 4 = .ok (.invokestatic 128, 3) := by decide +kernel
theorem dX10_realise_7 : decode cX10_realise 7 = .ok (.aload_n 0, 1) := by decide +kernel
theorem dX10_realise_8 : decode cX10_realise 8 = .ok (.iload_n 1, 1) := by decide +kernel
theorem dX10_realise_9 : decode cX10_realise 9 = .ok (.invokevirtual 256, 3) := by decide +kernel
theorem dX10_realise_12 : decode cX10_realise 12 = .ok (.invokevirtual 244, 3) := by decide +kernel
theorem dX10_realise_15 : decode cX10_realise 15 = .ok (.ifCond .ne 5, 3) := by decide +kernel
theorem dX10_realise_18 : decode cX10_realise 18 = .ok (.iconst 0, 1) := by decide +kernel
theorem dX10_realise_19 : decode cX10_realise 19 = .ok (.ireturn, 1) := by decide +kernel
theorem dX10_realise_20 : decode cX10_realise 20 = .ok (.aload_n 0, 1) := by decide +kernel
theorem dX10_realise_21 : decode cX10_realise 21 = .ok (.invokevirtual 337, 3) := by decide +kernel
theorem dX10_realise_24 : decode cX10_realise 24 = .ok (.aload_n 0, 1) := by decide +kernel
theorem dX10_realise_25 : decode cX10_realise 25 = .ok (.iload_n 1, 1) := by decide +kernel
theorem dX10_realise_26 : decode cX10_realise 26 = .ok (.invokevirtual 340, 3) := by decide +kernel
theorem dX10_realise_29 : decode cX10_realise 29 = .ok (.aload_n 0, 1) := by decide +kernel
theorem dX10_realise_30 : decode cX10_realise 30 = .ok (.invokevirtual 225, 3) := by decide +kernel
theorem dX10_realise_33 : decode cX10_realise 33 = .ok (.ireturn, 1) := by decide +kernel
theorem dX10_follow_0 : decode cX10_follow 0 = .ok (.aload_n 0, 1) := by decide +kernel
theorem dX10_follow_1 : decode cX10_follow 1 = .ok (.iload_n 1, 1) := by decide +kernel
theorem dX10_follow_2 : decode cX10_follow 2 = .ok (.iconst 0, 1) := by decide +kernel
theorem dX10_follow_3 : decode cX10_follow 3 = .ok (.bipush 16, 2) := by decide +kernel
theorem dX10_follow_5 : decode cX10_follow 5 = .ok (.invokestatic 128, 3) := by decide +kernel
theorem dX10_follow_8 : decode cX10_follow 8 = .ok (.aload_n 0, 1) := by decide +kernel
theorem dX10_follow_9 : decode cX10_follow 9 = .ok (.invokevirtual 313, 3) := by decide +kernel
theorem dX10_follow_12 : decode cX10_follow 12 = .ok (.invokevirtual 244, 3) := by decide +kernel
theorem dX10_follow_15 : decode cX10_follow 15 = .ok (.ifCond .ne 5, 3) := by decide +kernel
theorem dX10_follow_18 : decode cX10_follow 18 = .ok (.iconst 0, 1) := by decide +kernel
theorem dX10_follow_19 : decode cX10_follow 19 = .ok (.ireturn, 1) := by decide +kernel
theorem dX10_follow_20 : decode cX10_follow 20 = .ok (.aload_n 0, 1) := by decide +kernel
theorem dX10_follow_21 : decode cX10_follow 21 = .ok (.invokevirtual 337, 3) := by decide +kernel
theorem dX10_follow_24 : decode cX10_follow 24 = .ok (.aload_n 0, 1) := by decide +kernel
theorem dX10_follow_25 : decode cX10_follow 25 = .ok (.invokevirtual 328, 3) := by decide +kernel
theorem dX10_follow_28 : decode cX10_follow 28 = .ok (.istore_n 2, 1) := by decide +kernel
theorem dX10_follow_29 : decode cX10_follow 29 = .ok (.iconst 0, 1) := by decide +kernel
theorem dX10_follow_30 : decode cX10_follow 30 = .ok (.istore_n 3, 1) := by decide +kernel
theorem dX10_follow_31 : decode cX10_follow 31 = .ok (.iload_n 3, 1) := by decide +kernel
theorem dX10_follow_32 : decode cX10_follow 32 = .ok (.iload_n 1, 1) := by decide +kernel
theorem dX10_follow_33 : decode cX10_follow 33 = .ok (.iload_n 2, 1) := by decide +kernel
theorem dX10_follow_34 : decode cX10_follow 34 = .ok (.invokestatic 238, 3) := by decide +kernel
theorem dX10_follow_37 : decode cX10_follow 37 = .ok (.if_icmp .ge 19, 3) := by decide +kernel
theorem dX10_follow_40 : decode cX10_follow 40 = .ok (.aload_n 0, 1) := by decide +kernel
theorem dX10_follow_41 : decode cX10_follow 41 = .ok (.aload_n 0, 1) := by decide +kernel
theorem dX10_follow_42 : decode cX10_follow 42 = .ok (.getfield 48, 3) := by decide +kernel
theorem dX10_follow_45 : decode cX10_follow 45 = .ok (.iload_n 3, 1) := by decide +kernel
theorem dX10_follow_46 : decode cX10_follow 46 = .ok (.iaload, 1) := by decide +kernel
theorem dX10_follow_47 : decode cX10_follow 47 = .ok (.invokevirtual 304, 3) := by decide +kernel
theorem dX10_follow_50 : decode cX10_follow 50 = .ok (.iinc 3 1, 3) := by decide +kernel
theorem dX10_follow_53 : decode cX10_follow 53 = .ok (.goto (-22), 3) := by decide +kernel
theorem dX10_follow_56 : decode cX10_follow 56 = .ok (.aload_n 0, 1) := by decide +kernel
theorem dX10_follow_57 : decode cX10_follow 57 = .ok (.invokevirtual 307, 3) := by decide +kernel
theorem dX10_follow_60 : decode cX10_follow 60 = .ok (.ireturn, 1) := by decide +kernel
theorem dX10_connecting_0 : decode cX10_connecting 0 = .ok (.aload_n 0, 1) := by decide +kernel
theorem dX10_connecting_1 : decode cX10_connecting 1 = .ok (.invokevirtual 241, 3) := by decide +kernel
theorem dX10_connecting_4 : decode cX10_connecting 4 = .ok (.istore_n 1, 1) := by decide +kernel
theorem dX10_connecting_5 : decode cX10_connecting 5 = .ok (.aload_n 0, 1) := by decide +kernel
theorem dX10_connecting_6 : decode cX10_connecting 6 = .ok (.aload_n 0, 1) := by decide +kernel
theorem dX10_connecting_7 : decode cX10_connecting 7 = .ok (.getfield 7, 3) := by decide +kernel
theorem dX10_connecting_10 : decode cX10_connecting 10 = .ok (.iconst 1, 1) := by decide +kernel
theorem dX10_connecting_11 : decode cX10_connecting 11 = .ok (.iaload, 1) := by decide +kernel
theorem dX10_connecting_12 : decode cX10_connecting 12 = .ok (.invokevirtual 298, 3) := by decide +kernel
theorem dX10_connecting_15 : decode cX10_connecting 15 = .ok (.istore_n 2, 1) := by decide +kernel
theorem dX10_connecting_16 : decode cX10_connecting 16 = .ok (.iconst 0, 1) := by decide +kernel
theorem dX10_connecting_17 : decode cX10_connecting 17 = .ok (.istore_n 3, 1) := by decide +kernel
theorem dX10_connecting_18 : decode cX10_connecting 18 = .ok (.iload_n 3, 1) := by decide +kernel
theorem dX10_connecting_19 : decode cX10_connecting 19 = .ok (.iload_n 2, 1) := by decide +kernel
theorem dX10_connecting_20 : decode cX10_connecting 20 = .ok (.if_icmp .ge 56, 3) := by decide +kernel
theorem dX10_connecting_23 : decode cX10_connecting 23 = .ok (.aload_n 0, 1) := by decide +kernel
theorem dX10_connecting_24 : decode cX10_connecting 24 = .ok (.aload_n 0, 1) := by decide +kernel
theorem dX10_connecting_25 : decode cX10_connecting 25 = .ok (.getfield 45, 3) := by decide +kernel
theorem dX10_connecting_28 : decode cX10_connecting 28 = .ok (.iload_n 3, 1) := by decide +kernel
theorem dX10_connecting_29 : decode cX10_connecting 29 = .ok (.iaload, 1) := by decide +kernel
theorem dX10_connecting_30 : decode cX10_connecting 30 = .ok (.invokevirtual 304, 3) := by decide +kernel
theorem dX10_connecting_33 : decode cX10_connecting 33 = .ok (.aload_n 0, 1) := by decide +kernel
theorem dX10_connecting_34 : decode cX10_connecting 34 = .ok (.invokevirtual 241, 3) := by decide +kernel
theorem dX10_connecting_37 : decode cX10_connecting 37 = .ok (.iload_n 1, 1) := by decide +kernel
theorem dX10_connecting_38 : decode cX10_connecting 38 = .ok (.if_icmp .ge 7, 3) := by decide +kernel
theorem dX10_connecting_41 : decode cX10_connecting 41 = .ok (.iconst 1, 1) := by decide +kernel
theorem dX10_connecting_42 : decode cX10_connecting 42 = .ok (.goto 4, 3) := by decide +kernel
theorem dX10_connecting_45 : decode cX10_connecting 45 = .ok (.iconst 0, 1) := by decide +kernel
theorem dX10_connecting_46 : decode cX10_connecting 46 = .ok (.istore 4, 2) := by decide +kernel
theorem dX10_connecting_48 : decode cX10_connecting 48 = .ok (.aload_n 0, 1) := by decide +kernel
theorem dX10_connecting_49 : decode cX10_connecting 49 = .ok (.aload_n 0, 1) := by decide +kernel
theorem dX10_connecting_50 : decode cX10_connecting 50 = .ok (.getfield 45, 3) := by decide +kernel
theorem dX10_connecting_53 : decode cX10_connecting 53 = .ok (.iload_n 3, 1) := by decide +kernel
theorem dX10_connecting_54 : decode cX10_connecting 54 = .ok (.iaload, 1) := by decide +kernel
theorem dX10_connecting_55 : decode cX10_connecting 55 = .ok (.invokevirtual 310, 3) := by decide +kernel
theorem dX10_connecting_58 : decode cX10_connecting 58 = .ok (.iload 4, 2) := by decide +kernel
theorem dX10_connecting_60 : decode cX10_connecting 60 = .ok (.ifCond .eq 10, 3) := by decide +kernel
theorem dX10_connecting_63 : decode cX10_connecting 63 = .ok (.aload_n 0, 1) := by decide +kernel
theorem dX10_connecting_64 : decode cX10_connecting 64 = .ok (.getfield 45, 3) := by decide +kernel
theorem dX10_connecting_67 : decode cX10_connecting 67 = .ok (.iload_n 3, 1) := by decide +kernel
theorem dX10_connecting_68 : decode cX10_connecting 68 = .ok (.iaload, 1) := by decide +kernel
theorem dX10_connecting_69 : decode cX10_connecting 69 = .ok (.ireturn, 1) := by decide +kernel
theorem dX10_connecting_70 : decode cX10_connecting 70 = .ok (.iinc 3 1, 3) := by decide +kernel
theorem dX10_connecting_73 : decode cX10_connecting 73 = .ok (.goto (-55), 3) := by decide +kernel
theorem dX10_connecting_76 : decode cX10_connecting 76 = .ok (.iconst (-1), 1) := by decide +kernel
theorem dX10_connecting_77 : decode cX10_connecting 77 = .ok (.ireturn, 1) := by decide +kernel
theorem dX10_connect_0 : decode cX10_connect 0 = .ok (.aload_n 0, 1) := by decide +kernel
theorem dX10_connect_1 : decode cX10_connect 1 = .ok (.iconst 0, 1) := by decide +kernel
theorem dX10_connect_2 : decode cX10_connect 2 = .ok (.putfield 54, 3) := by decide +kernel
theorem dX10_connect_5 : decode cX10_connect 5 = .ok (.aload_n 0, 1) := by decide +kernel
theorem dX10_connect_6 : decode cX10_connect 6 = .ok (.invokevirtual 337, 3) := by decide +kernel
theorem dX10_connect_9 : decode cX10_connect 9 = .ok (.aload_n 0, 1) := by decide +kernel
theorem dX10_connect_10 : decode cX10_connect 10 = .ok (.invokevirtual 343, 3) := by decide +kernel
theorem dX10_connect_13 : decode cX10_connect 13 = .ok (.istore_n 1, 1) := by decide +kernel
theorem dX10_connect_14 : decode cX10_connect 14 = .ok (.iload_n 1, 1) := by decide +kernel
theorem dX10_connect_15 : decode cX10_connect 15 = .ok (.iconst (-1), 1) := by decide +kernel
theorem dX10_connect_16 : decode cX10_connect 16 = .ok (.if_icmp .eq 16, 3) := by decide +kernel
theorem dX10_connect_19 : decode cX10_connect 19 = .ok (.aload_n 0, 1) := by decide +kernel
theorem dX10_connect_20 : decode cX10_connect 20 = .ok (.iload_n 1, 1) := by decide +kernel
theorem dX10_connect_21 : decode cX10_connect 21 = .ok (.invokevirtual 304, 3) := by decide +kernel
theorem dX10_connect_24 : decode cX10_connect 24 = .ok (.aload_n 0, 1) := by decide +kernel
theorem dX10_connect_25 : decode cX10_connect 25 = .ok (.invokevirtual 343, 3) := by decide +kernel
theorem dX10_connect_28 : decode cX10_connect 28 = .ok (.istore_n 1, 1) := by decide +kernel
theorem dX10_connect_29 : decode cX10_connect 29 = .ok (.goto (-15), 3) := by decide +kernel
theorem dX10_connect_32 : decode cX10_connect 32 = .ok (.aload_n 0, 1) := by decide +kernel
theorem dX10_connect_33 : decode cX10_connect 33 = .ok (.invokevirtual 241, 3) := by decide +kernel
theorem dX10_connect_36 : decode cX10_connect 36 = .ok (.ireturn, 1) := by decide +kernel
theorem dX10_simplifying_0 : decode cX10_simplifying 0 = .ok (.aload_n 0, 1) := by decide +kernel
theorem dX10_simplifying_1 : decode cX10_simplifying 1 = .ok (.invokevirtual 225, 3) := by decide +kernel
theorem dX10_simplifying_4 : decode cX10_simplifying 4 = .ok (.istore_n 1, 1) := by decide +kernel
theorem dX10_simplifying_5 : decode cX10_simplifying 5 = .ok (.iconst (-1), 1) := by decide +kernel
theorem dX10_simplifying_6 : decode cX10_simplifying 6 = .ok (.istore_n 2, 1) := by decide +kernel
theorem dX10_simplifying_7 : decode cX10_simplifying 7 = .ok (.aload_n 0, 1) := by decide +kernel
theorem dX10_simplifying_8 : decode cX10_simplifying 8 = .ok (.iconst 0, 1) := by decide +kernel
theorem dX10_simplifying_9 : decode cX10_simplifying 9 = .ok (.invokevirtual 298, 3) := by decide +kernel
theorem dX10_simplifying_12 : decode cX10_simplifying 12 = .ok (.istore_n 3, 1) := by decide +kernel
theorem dX10_simplifying_13 : decode cX10_simplifying 13 = .ok (.iconst 0, 1) := by decide +kernel
theorem dX10_simplifying_14 : decode cX10_simplifying 14 = .ok (.istore 4, 2) := by decide +kernel
theorem dX10_simplifying_16 : decode cX10_simplifying 16 = .ok (.iload 4, 2) := by decide +kernel
theorem dX10_simplifying_18 : decode cX10_simplifying 18 = .ok (.iload_n 3, 1) := by decide +kernel
theorem dX10_simplifying_19 : decode cX10_simplifying 19 = .ok (.if_icmp .ge 54, 3) := by decide +kernel
theorem dX10_simplifying_22 : decode cX10_simplifying 22 = .ok (.aload_n 0, 1) := by decide +kernel
theorem dX10_simplifying_23 : decode cX10_simplifying 23 = .ok (.aload_n 0, 1) := by decide +kernel
theorem dX10_simplifying_24 : decode cX10_simplifying 24 = .ok (.getfield 45, 3) := by decide +kernel
theorem dX10_simplifying_27 : decode cX10_simplifying 27 = .ok (.iload 4, 2) := by decide +kernel
theorem dX10_simplifying_29 : decode cX10_simplifying 29 = .ok (.iaload, 1) := by decide +kernel
theorem dX10_simplifying_30 : decode cX10_simplifying 30 = .ok (.invokevirtual 304, 3) := by decide +kernel
theorem dX10_simplifying_33 : decode cX10_simplifying 33 = .ok (.aload_n 0, 1) := by decide +kernel
theorem dX10_simplifying_34 : decode cX10_simplifying 34 = .ok (.invokevirtual 225, 3) := by decide +kernel
theorem dX10_simplifying_37 : decode cX10_simplifying 37 = .ok (.istore 5, 2) := by decide +kernel
theorem dX10_simplifying_39 : decode cX10_simplifying 39 = .ok (.aload_n 0, 1) := by decide +kernel
theorem dX10_simplifying_40 : decode cX10_simplifying 40 = .ok (.aload_n 0, 1) := by decide +kernel
theorem dX10_simplifying_41 : decode cX10_simplifying 41 = .ok (.getfield 45, 3) := by decide +kernel
theorem dX10_simplifying_44 : decode cX10_simplifying 44 = .ok (.iload 4, 2) := by decide +kernel
theorem dX10_simplifying_46 : decode cX10_simplifying 46 = .ok (.iaload, 1) := by decide +kernel
theorem dX10_simplifying_47 : decode cX10_simplifying 47 = .ok (.invokevirtual 310, 3) := by decide +kernel
theorem dX10_simplifying_50 : decode cX10_simplifying 50 = .ok (.iload 5, 2) := by decide +kernel
theorem dX10_simplifying_52 : decode cX10_simplifying 52 = .ok (.iload_n 1, 1) := by decide +kernel
theorem dX10_simplifying_53 : decode cX10_simplifying 53 = .ok (.if_icmp .ge 14, 3) := by decide +kernel
theorem dX10_simplifying_56 : decode cX10_simplifying 56 = .ok (.aload_n 0, 1) := by decide +kernel
theorem dX10_simplifying_57 : decode cX10_simplifying 57 = .ok (.getfield 45, 3) := by decide +kernel
theorem dX10_simplifying_60 : decode cX10_simplifying 60 = .ok (.iload 4, 2) := by decide +kernel
theorem dX10_simplifying_62 : decode cX10_simplifying 62 = .ok (.iaload, 1) := by decide +kernel
theorem dX10_simplifying_63 : decode cX10_simplifying 63 = .ok (.istore_n 2, 1) := by decide +kernel
theorem dX10_simplifying_64 : decode cX10_simplifying 64 = .ok (.iload 5, 2) := by decide +kernel
theorem dX10_simplifying_66 : decode cX10_simplifying 66 = .ok (.istore_n 1, 1) := by decide +kernel
theorem dX10_simplifying_67 : decode cX10_simplifying 67 = .ok (.iinc 4 1, 3) := by decide +kernel
theorem dX10_simplifying_70 : decode cX10_simplifying 70 = .ok (.goto (-54), 3) := by decide +kernel
theorem dX10_simplifying_73 : decode cX10_simplifying 73 = .ok (.iload_n 2, 1) := by decide +kernel
theorem dX10_simplifying_74 : decode cX10_simplifying 74 = .ok (.ireturn, 1) := by decide +kernel
theorem dX10_simplify_0 : decode cX10_simplify 0 = .ok (.aload_n 0, 1) := by decide +kernel
theorem dX10_simplify_1 : decode cX10_simplify 1 = .ok (.iconst 0, 1) := by decide +kernel
theorem dX10_simplify_2 : decode cX10_simplify 2 = .ok (.putfield 54, 3) := by decide +kernel
theorem dX10_simplify_5 : decode cX10_simplify 5 = .ok (.aload_n 0, 1) := by decide +kernel
theorem dX10_simplify_6 : decode cX10_simplify 6 = .ok (.invokevirtual 337, 3) := by decide +kernel
theorem dX10_simplify_9 : decode cX10_simplify 9 = .ok (.aload_n 0, 1) := by decide +kernel
theorem dX10_simplify_10 : decode cX10_simplify 10 = .ok (.invokevirtual 346, 3) := by decide +kernel
theorem dX10_simplify_13 : decode cX10_simplify 13 = .ok (.istore_n 1, 1) := by decide +kernel
theorem dX10_simplify_14 : decode cX10_simplify 14 = .ok (.iload_n 1, 1) := by decide +kernel
theorem dX10_simplify_15 : decode cX10_simplify 15 = .ok (.iconst (-1), 1) := by decide +kernel
theorem dX10_simplify_16 : decode cX10_simplify 16 = .ok (.if_icmp .eq 16, 3) := by decide +kernel
theorem dX10_simplify_19 : decode cX10_simplify 19 = .ok (.aload_n 0, 1) := by decide +kernel
theorem dX10_simplify_20 : decode cX10_simplify 20 = .ok (.iload_n 1, 1) := by decide +kernel
theorem dX10_simplify_21 : decode cX10_simplify 21 = .ok (.invokevirtual 304, 3) := by decide +kernel
theorem dX10_simplify_24 : decode cX10_simplify 24 = .ok (.aload_n 0, 1) := by decide +kernel
theorem dX10_simplify_25 : decode cX10_simplify 25 = .ok (.invokevirtual 346, 3) := by decide +kernel
theorem dX10_simplify_28 : decode cX10_simplify 28 = .ok (.istore_n 1, 1) := by decide +kernel
theorem dX10_simplify_29 : decode cX10_simplify 29 = .ok (.goto (-15), 3) := by decide +kernel
theorem dX10_simplify_32 : decode cX10_simplify 32 = .ok (.aload_n 0, 1) := by decide +kernel
theorem dX10_simplify_33 : decode cX10_simplify 33 = .ok (.invokevirtual 225, 3) := by decide +kernel
theorem dX10_simplify_36 : decode cX10_simplify 36 = .ok (.ireturn, 1) := by decide +kernel
theorem dX10_exchange_0 : decode cX10_exchange 0 = .ok (.aload_n 0, 1) := by decide +kernel
theorem dX10_exchange_1 : decode cX10_exchange 1 = .ok (.iconst 0, 1) := by decide +kernel
theorem dX10_exchange_2 : decode cX10_exchange 2 = .ok (.putfield 54, 3) := by decide +kernel
theorem dX10_exchange_5 : decode cX10_exchange 5 = .ok (.aload_n 0, 1) := by decide +kernel
theorem dX10_exchange_6 : decode cX10_exchange 6 = .ok (.invokevirtual 337, 3) := by decide +kernel
theorem dX10_exchange_9 : decode cX10_exchange 9 = .ok (.iconst 0, 1) := by decide +kernel
theorem dX10_exchange_10 : decode cX10_exchange 10 = .ok (.istore_n 1, 1) := by decide +kernel
theorem dX10_exchange_11 : decode cX10_exchange 11 = .ok (.iload_n 1, 1) := by decide +kernel
theorem dX10_exchange_12 : decode cX10_exchange 12 = .ok (.bipush 64, 2) := by decide +kernel
theorem dX10_exchange_14 : decode cX10_exchange 14 = .ok (.if_icmp .ge 45, 3) := by decide +kernel
theorem dX10_exchange_17 : decode cX10_exchange 17 = .ok (.aload_n 0, 1) := by decide +kernel
theorem dX10_exchange_18 : decode cX10_exchange 18 = .ok (.getfield 7, 3) := by decide +kernel
theorem dX10_exchange_21 : decode cX10_exchange 21 = .ok (.iconst 2, 1) := by decide +kernel
theorem dX10_exchange_22 : decode cX10_exchange 22 = .ok (.iload_n 1, 1) := by decide +kernel
theorem dX10_exchange_23 : decode cX10_exchange 23 = .ok (.iadd, 1) := by decide +kernel
theorem dX10_exchange_24 : decode cX10_exchange 24 = .ok (.iaload, 1) := by decide +kernel
theorem dX10_exchange_25 : decode cX10_exchange 25 = .ok (.istore_n 2, 1) := by decide +kernel
theorem dX10_exchange_26 : decode cX10_exchange 26 = .ok (.aload_n 0, 1) := by decide +kernel
theorem dX10_exchange_27 : decode cX10_exchange 27 = .ok (.getfield 7, 3) := by decide +kernel
theorem dX10_exchange_30 : decode cX10_exchange 30 = .ok (.iconst 2, 1) := by decide +kernel
theorem dX10_exchange_31 : decode cX10_exchange 31 = .ok (.iload_n 1, 1) := by decide +kernel
theorem dX10_exchange_32 : decode cX10_exchange 32 = .ok (.iadd, 1) := by decide +kernel
theorem dX10_exchange_33 : decode cX10_exchange 33 = .ok (.aload_n 0, 1) := by decide +kernel
theorem dX10_exchange_34 : decode cX10_exchange 34 = .ok (.getfield 7, 3) := by decide +kernel
theorem dX10_exchange_37 : decode cX10_exchange 37 = .ok (.bipush 66, 2) := by decide +kernel
theorem dX10_exchange_39 : decode cX10_exchange 39 = .ok (.iload_n 1, 1) := by decide +kernel
theorem dX10_exchange_40 : decode cX10_exchange 40 = .ok (.iadd, 1) := by decide +kernel
theorem dX10_exchange_41 : decode cX10_exchange 41 = .ok (.iaload, 1) := by decide +kernel
theorem dX10_exchange_42 : decode cX10_exchange 42 = .ok (.iastore, 1) := by decide +kernel
theorem dX10_exchange_43 : decode cX10_exchange 43 = .ok (.aload_n 0, 1) := by decide +kernel
theorem dX10_exchange_44 : decode cX10_exchange 44 = .ok (.getfield 7, 3) := by decide +kernel
theorem dX10_exchange_47 : decode cX10_exchange 47 = .ok (.bipush 66, 2) := by decide +kernel
theorem dX10_exchange_49 : decode cX10_exchange 49 = .ok (.iload_n 1, 1) := by decide +kernel
theorem dX10_exchange_50 : decode cX10_exchange 50 = .ok (.iadd, 1) := by decide +kernel
theorem dX10_exchange_51 : decode cX10_exchange 51 = .ok (.iload_n 2, 1) := by decide +kernel
theorem dX10_exchange_52 : decode cX10_exchange 52 = .ok (.iastore, 1) := by decide +kernel
theorem dX10_exchange_53 : decode cX10_exchange 53 = .ok (.iinc 1 1, 3) := by decide +kernel
theorem dX10_exchange_56 : decode cX10_exchange 56 = .ok (.goto (-45), 3) := by decide +kernel
theorem dX10_exchange_59 : decode cX10_exchange 59 = .ok (.aload_n 0, 1) := by decide +kernel
theorem dX10_exchange_60 : decode cX10_exchange 60 = .ok (.invokevirtual 307, 3) := by decide +kernel
theorem dX10_exchange_63 : decode cX10_exchange 63 = .ok (.ireturn, 1) := by decide +kernel
theorem dX10_copyToTarget_0 : decode cX10_copyToTarget 0 = .ok (.aload_n 0, 1) := by decide +kernel
theorem dX10_copyToTarget_1 : decode cX10_copyToTarget 1 = .ok (.iconst 0, 1) := by decide +kernel
theorem dX10_copyToTarget_2 : decode cX10_copyToTarget 2 = .ok (.putfield 54, 3) := by decide +kernel
theorem dX10_copyToTarget_5 : decode cX10_copyToTarget 5 = .ok (.aload_n 0, 1) := by decide +kernel
theorem dX10_copyToTarget_6 : decode cX10_copyToTarget 6 = .ok (.invokevirtual 337, 3) := by decide +kernel
theorem dX10_copyToTarget_9 : decode cX10_copyToTarget 9 = .ok (.aload_n 0, 1) := by decide +kernel
theorem dX10_copyToTarget_10 : decode cX10_copyToTarget 10 = .ok (.invokevirtual 307, 3) := by decide +kernel
theorem dX10_copyToTarget_13 : decode cX10_copyToTarget 13 = .ok (.istore_n 1, 1) := by decide +kernel
theorem dX10_copyToTarget_14 : decode cX10_copyToTarget 14 = .ok (.iconst 0, 1) := by decide +kernel
theorem dX10_copyToTarget_15 : decode cX10_copyToTarget 15 = .ok (.istore_n 2, 1) := by decide +kernel
theorem dX10_copyToTarget_16 : decode cX10_copyToTarget 16 = .ok (.iload_n 2, 1) := by decide +kernel
theorem dX10_copyToTarget_17 : decode cX10_copyToTarget 17 = .ok (.bipush 64, 2) := by decide +kernel
theorem dX10_copyToTarget_19 : decode cX10_copyToTarget 19 = .ok (.if_icmp .ge 26, 3) := by decide +kernel
theorem dX10_copyToTarget_22 : decode cX10_copyToTarget 22 = .ok (.aload_n 0, 1) := by decide +kernel
theorem dX10_copyToTarget_23 : decode cX10_copyToTarget 23 = .ok (.getfield 7, 3) := by decide +kernel
theorem dX10_copyToTarget_26 : decode cX10_copyToTarget 26 = .ok (.bipush 66, 2) := by decide +kernel
theorem dX10_copyToTarget_28 : decode cX10_copyToTarget 28 = .ok (.iload_n 2, 1) := by decide +kernel
theorem dX10_copyToTarget_29 : decode cX10_copyToTarget 29 = .ok (.iadd, 1) := by decide +kernel
theorem dX10_copyToTarget_30 : decode cX10_copyToTarget 30 = .ok (.aload_n 0, 1) := by decide +kernel
theorem dX10_copyToTarget_31 : decode cX10_copyToTarget 31 = .ok (.getfield 7, 3) := by decide +kernel
theorem dX10_copyToTarget_34 : decode cX10_copyToTarget 34 = .ok (.iconst 2, 1) := by decide +kernel
theorem dX10_copyToTarget_35 : decode cX10_copyToTarget 35 = .ok (.iload_n 2, 1) := by decide +kernel
theorem dX10_copyToTarget_36 : decode cX10_copyToTarget 36 = .ok (.iadd, 1) := by decide +kernel
theorem dX10_copyToTarget_37 : decode cX10_copyToTarget 37 = .ok (.iaload, 1) := by decide +kernel
theorem dX10_copyToTarget_38 : decode cX10_copyToTarget 38 = .ok (.iastore, 1) := by decide +kernel
theorem dX10_copyToTarget_39 : decode cX10_copyToTarget 39 = .ok (.iinc 2 1, 3) := by decide +kernel
theorem dX10_copyToTarget_42 : decode cX10_copyToTarget 42 = .ok (.goto (-26), 3) := by decide +kernel
theorem dX10_copyToTarget_45 : decode cX10_copyToTarget 45 = .ok (.iload_n 1, 1) := by decide +kernel
theorem dX10_copyToTarget_46 : decode cX10_copyToTarget 46 = .ok (.ireturn, 1) := by decide +kernel
theorem dX10_setMode_0 : decode cX10_setMode 0 = .ok (.aload_n 0, 1) := by decide +kernel
theorem dX10_setMode_1 : decode cX10_setMode 1 = .ok (.iload_n 1, 1) := by decide +kernel
theorem dX10_setMode_2 : decode cX10_setMode 2 = .ok (.iconst 0, 1) := by decide +kernel
theorem dX10_setMode_3 : decode cX10_setMode 3 = .ok (.iconst 2, 1) := by decide +kernel
theorem dX10_setMode_4 : decode cX10_setMode 4 = .ok (.invokestatic 128, 3) := by decide +kernel
theorem dX10_setMode_7 : decode cX10_setMode 7 = .ok (.invokevirtual 188, 3) := by decide +kernel
theorem dX10_setMode_10 : decode cX10_setMode 10 = .ok (.ifCond .ne 5, 3) := by decide +kernel
theorem dX10_setMode_13 : decode cX10_setMode 13 = .ok (.iconst 0, 1) := by decide +kernel
theorem dX10_setMode_14 : decode cX10_setMode 14 = .ok (.ireturn, 1) := by decide +kernel
theorem dX10_setMode_15 : decode cX10_setMode 15 = .ok (.aload_n 0, 1) := by decide +kernel
theorem dX10_setMode_16 : decode cX10_setMode 16 = .ok (.invokevirtual 337, 3) := by decide +kernel
theorem dX10_setMode_19 : decode cX10_setMode 19 = .ok (.aload_n 0, 1) := by decide +kernel
theorem dX10_setMode_20 : decode cX10_setMode 20 = .ok (.getfield 7, 3) := by decide +kernel
theorem dX10_setMode_23 : decode cX10_setMode 23 = .ok (.iconst 1, 1) := by decide +kernel
theorem dX10_setMode_24 : decode cX10_setMode 24 = .ok (.iaload, 1) := by decide +kernel
theorem dX10_setMode_25 : decode cX10_setMode 25 = .ok (.istore_n 2, 1) := by decide +kernel
theorem dX10_setMode_26 : decode cX10_setMode 26 = .ok (.aload_n 0, 1) := by decide +kernel
theorem dX10_setMode_27 : decode cX10_setMode 27 = .ok (.getfield 7, 3) := by decide +kernel
theorem dX10_setMode_30 : decode cX10_setMode 30 = .ok (.iconst 1, 1) := by decide +kernel
theorem dX10_setMode_31 : decode cX10_setMode 31 = .ok (.iload_n 1, 1) := by decide +kernel
theorem dX10_setMode_32 : decode cX10_setMode 32 = .ok (.iastore, 1) := by decide +kernel
theorem dX10_setMode_33 : decode cX10_setMode 33 = .ok (.iload_n 2, 1) := by decide +kernel
theorem dX10_setMode_34 : decode cX10_setMode 34 = .ok (.ireturn, 1) := by decide +kernel
theorem dX10_says_0 : decode cX10_says 0 = .ok (.aload_n 0, 1) := by decide +kernel
theorem dX10_says_1 : decode cX10_says 1 = .ok (.getfield 51, 3) := by decide +kernel
theorem dX10_says_4 : decode cX10_says 4 = .ok (.aload_n 0, 1) := by decide +kernel
theorem dX10_says_5 : decode cX10_says 5 = .ok (.getfield 349, 3) := by decide +kernel
theorem dX10_says_8 : decode cX10_says 8 = .ok (.iload_n 1, 1) := by decide +kernel
theorem dX10_says_9 : decode cX10_says 9 = .ok (.iastore, 1) := by decide +kernel
theorem dX10_says_10 : decode cX10_says 10 = .ok (.aload_n 0, 1) := by decide +kernel
theorem dX10_says_11 : decode cX10_says 11 = .ok (.dup, 1) := by decide +kernel
theorem dX10_says_12 : decode cX10_says 12 = .ok (.getfield 349, 3) := by decide +kernel
theorem dX10_says_15 : decode cX10_says 15 = .ok (.iconst 1, 1) := by decide +kernel
theorem dX10_says_16 : decode cX10_says 16 = .ok (.iadd, 1) := by decide +kernel
theorem dX10_says_17 : decode cX10_says 17 = .ok (.putfield 349, 3) := by decide +kernel
theorem dX10_says_20 : decode cX10_says 20 = .ok (.return_, 1) := by decide +kernel
theorem dX10_saysNumber_0 : decode cX10_saysNumber 0 = .ok (.iload_n 1, 1) := by decide +kernel
theorem dX10_saysNumber_1 : decode cX10_saysNumber 1 = .ok (.bipush 9, 2) := by decide +kernel
theorem dX10_saysNumber_3 : decode cX10_saysNumber 3 = .ok (.if_icmp .le 11, 3) := by decide +kernel
theorem dX10_saysNumber_6 : decode cX10_saysNumber 6 = .ok (.aload_n 0, 1) := by decide +kernel
theorem dX10_saysNumber_7 : decode cX10_saysNumber 7 = .ok (.iload_n 1, 1) := by decide +kernel
theorem dX10_saysNumber_8 : decode cX10_saysNumber 8 = .ok (.bipush 10, 2) := by decide +kernel
theorem dX10_saysNumber_10 : decode cX10_saysNumber 10 = .ok (.idiv, 1) := by decide +kernel
theorem dX10_saysNumber_11 : decode cX10_saysNumber 11 = .ok (.invokevirtual 352, 3) := by decide +kernel
theorem dX10_saysNumber_14 : decode cX10_saysNumber 14 = .ok (.aload_n 0, 1) := by decide +kernel
theorem dX10_saysNumber_15 : decode cX10_saysNumber 15 = .ok (.bipush 48, 2) := by decide +kernel
theorem dX10_saysNumber_17 : decode cX10_saysNumber 17 = .ok (.iload_n 1, 1) := by decide +kernel
theorem dX10_saysNumber_18 : decode cX10_saysNumber 18 = .ok (.bipush 10, 2) := by decide +kernel
theorem dX10_saysNumber_20 : decode cX10_saysNumber 20 = .ok (.irem, 1) := by decide +kernel
theorem dX10_saysNumber_21 : decode cX10_saysNumber 21 = .ok (.iadd, 1) := by decide +kernel
theorem dX10_saysNumber_22 : decode cX10_saysNumber 22 = .ok (.invokevirtual 355, 3) := by decide +kernel
theorem dX10_saysNumber_25 : decode cX10_saysNumber 25 = .ok (.return_, 1) := by decide +kernel
theorem dX10_saysEdges_0 : decode cX10_saysEdges 0 = .ok (.aload_n 0, 1) := by decide +kernel
theorem dX10_saysEdges_1 : decode cX10_saysEdges 1 = .ok (.getfield 349, 3) := by decide +kernel
theorem dX10_saysEdges_4 : decode cX10_saysEdges 4 = .ok (.ifCond .le 9, 3) := by decide +kernel
theorem dX10_saysEdges_7 : decode cX10_saysEdges 7 = .ok (.aload_n 0, 1) := by decide +kernel
theorem dX10_saysEdges_8 : decode cX10_saysEdges 8 = .ok (.bipush 32, 2) := by decide +kernel
theorem dX10_saysEdges_10 : decode cX10_saysEdges 10 = .ok (.invokevirtual 355, 3) := by decide +kernel
theorem dX10_saysEdges_13 : decode cX10_saysEdges 13 = .ok (.aload_n 0, 1) := by decide +kernel
theorem dX10_saysEdges_14 : decode cX10_saysEdges 14 = .ok (.iload_n 1, 1) := by decide +kernel
theorem dX10_saysEdges_15 : decode cX10_saysEdges 15 = .ok (.invokevirtual 352, 3) := by decide +kernel
theorem dX10_saysEdges_18 : decode cX10_saysEdges 18 = .ok (.aload_n 0, 1) := by decide +kernel
theorem dX10_saysEdges_19 : decode cX10_saysEdges 19 = .ok (.bipush 45, 2) := by decide +kernel
theorem dX10_saysEdges_21 : decode cX10_saysEdges 21 = .ok (.invokevirtual 355, 3) := by decide +kernel
theorem dX10_saysEdges_24 : decode cX10_saysEdges 24 = .ok (.aload_n 0, 1) := by decide +kernel
theorem dX10_saysEdges_25 : decode cX10_saysEdges 25 = .ok (.iload_n 2, 1) := by decide +kernel
theorem dX10_saysEdges_26 : decode cX10_saysEdges 26 = .ok (.invokevirtual 352, 3) := by decide +kernel
theorem dX10_saysEdges_29 : decode cX10_saysEdges 29 = .ok (.iload_n 3, 1) := by decide +kernel
theorem dX10_saysEdges_30 : decode cX10_saysEdges 30 = .ok (.iconst 1, 1) := by decide +kernel
theorem dX10_saysEdges_31 : decode cX10_saysEdges 31 = .ok (.if_icmp .le 14, 3) := by decide +kernel
theorem dX10_saysEdges_34 : decode cX10_saysEdges 34 = .ok (.aload_n 0, 1) := by decide +kernel
theorem dX10_saysEdges_35 : decode cX10_saysEdges 35 = .ok (.bipush 120, 2) := by decide +kernel
theorem dX10_saysEdges_37 : decode cX10_saysEdges 37 = .ok (.invokevirtual 355, 3) := by decide +kernel
theorem dX10_saysEdges_40 : decode cX10_saysEdges 40 = .ok (.aload_n 0, 1) := by decide +kernel
theorem dX10_saysEdges_41 : decode cX10_saysEdges 41 = .ok (.iload_n 3, 1) := by decide +kernel
theorem dX10_saysEdges_42 : decode cX10_saysEdges 42 = .ok (.invokevirtual 352, 3) := by decide +kernel
theorem dX10_saysEdges_45 : decode cX10_saysEdges 45 = .ok (.return_, 1) := by decide +kernel
theorem dX10_write_0 : decode cX10_write 0 = .ok (.aload_n 0, 1) := by decide +kernel
theorem dX10_write_1 : decode cX10_write 1 = .ok (.iconst 0, 1) := by decide +kernel
theorem dX10_write_2 : decode cX10_write 2 = .ok (.putfield 54, 3) := by decide +kernel
theorem dX10_write_5 : decode cX10_write 5 = .ok (.aload_n 0, 1) := by decide +kernel
theorem dX10_write_6 : decode cX10_write 6 = .ok (.iconst 0, 1) := by decide +kernel
theorem dX10_write_7 : decode cX10_write 7 = .ok (.putfield 349, 3) := by decide +kernel
theorem dX10_write_10 : decode cX10_write 10 = .ok (.iconst 0, 1) := by decide +kernel
theorem dX10_write_11 : decode cX10_write 11 = .ok (.istore_n 2, 1) := by decide +kernel
theorem dX10_write_12 : decode cX10_write 12 = .ok (.iload_n 2, 1) := by decide +kernel
theorem dX10_write_13 : decode cX10_write 13 = .ok (.bipush 8, 2) := by decide +kernel
theorem dX10_write_15 : decode cX10_write 15 = .ok (.if_icmp .ge 52, 3) := by decide +kernel
theorem dX10_write_18 : decode cX10_write 18 = .ok (.iload_n 2, 1) := by decide +kernel
theorem dX10_write_19 : decode cX10_write 19 = .ok (.istore_n 3, 1) := by decide +kernel
theorem dX10_write_20 : decode cX10_write 20 = .ok (.iload_n 3, 1) := by decide +kernel
theorem dX10_write_21 : decode cX10_write 21 = .ok (.bipush 8, 2) := by decide +kernel
theorem dX10_write_23 : decode cX10_write 23 = .ok (.if_icmp .ge 38, 3) := by decide +kernel
theorem dX10_write_26 : decode cX10_write 26 = .ok (.aload_n 0, 1) := by decide +kernel
theorem dX10_write_27 : decode cX10_write 27 = .ok (.iload_n 1, 1) := by decide +kernel
theorem dX10_write_28 : decode cX10_write 28 = .ok (.invokestatic 206, 3) := by decide +kernel
theorem dX10_write_31 : decode cX10_write 31 = .ok (.iload_n 2, 1) := by decide +kernel
theorem dX10_write_32 : decode cX10_write 32 = .ok (.iload_n 3, 1) := by decide +kernel
theorem dX10_write_33 : decode cX10_write 33 = .ok (.invokevirtual 68, 3) := by decide +kernel
theorem dX10_write_36 : decode cX10_write 36 = .ok (.ifCond .le 19, 3) := by decide +kernel
theorem dX10_write_39 : decode cX10_write 39 = .ok (.aload_n 0, 1) := by decide +kernel
theorem dX10_write_40 : decode cX10_write 40 = .ok (.iload_n 2, 1) := by decide +kernel
theorem dX10_write_41 : decode cX10_write 41 = .ok (.iload_n 3, 1) := by decide +kernel
theorem dX10_write_42 : decode cX10_write 42 = .ok (.aload_n 0, 1) := by decide +kernel
theorem dX10_write_43 : decode cX10_write 43 = .ok (.iload_n 1, 1) := by decide +kernel
theorem dX10_write_44 : decode cX10_write 44 = .ok (.invokestatic 206, 3) := by decide +kernel
theorem dX10_write_47 : decode cX10_write 47 = .ok (.iload_n 2, 1) := by decide +kernel
theorem dX10_write_48 : decode cX10_write 48 = .ok (.iload_n 3, 1) := by decide +kernel
theorem dX10_write_49 : decode cX10_write 49 = .ok (.invokevirtual 68, 3) := by decide +kernel
theorem dX10_write_52 : decode cX10_write 52 = .ok (.invokevirtual 358, 3) := by decide +kernel
theorem dX10_write_55 : decode cX10_write 55 = .ok (.iinc 3 1, 3) := by decide +kernel
theorem dX10_write_58 : decode cX10_write 58 = .ok (.goto (-38), 3) := by decide +kernel
theorem dX10_write_61 : decode cX10_write 61 = .ok (.iinc 2 1, 3) := by decide +kernel
theorem dX10_write_64 : decode cX10_write 64 = .ok (.goto (-52), 3) := by decide +kernel
theorem dX10_write_67 : decode cX10_write 67 = .ok (.aload_n 0, 1) := by decide +kernel
theorem dX10_write_68 : decode cX10_write 68 = .ok (.getfield 349, 3) := by decide +kernel
theorem dX10_write_71 : decode cX10_write 71 = .ok (.ireturn, 1) := by decide +kernel
theorem dX10_written_0 : decode cX10_written 0 = .ok (.aload_n 0, 1) := by decide +kernel
theorem dX10_written_1 : decode cX10_written 1 = .ok (.iload_n 1, 1) := by decide +kernel
theorem dX10_written_2 : decode cX10_written 2 = .ok (.iconst 0, 1) := by decide +kernel
theorem dX10_written_3 : decode cX10_written 3 = .ok (.aload_n 0, 1) := by decide +kernel
theorem dX10_written_4 : decode cX10_written 4 = .ok (.getfield 349, 3) := by decide +kernel
theorem dX10_written_7 : decode cX10_written 7 = .ok (.iconst 1, 1) := by decide +kernel
theorem dX10_written_8 : decode cX10_written 8 = .ok (.isub, 1) := by decide +kernel
theorem dX10_written_9 : decode cX10_written 9 = .ok (.invokestatic 128, 3) := by decide +kernel
theorem dX10_written_12 : decode cX10_written 12 = .ok (.invokevirtual 188, 3) := by decide +kernel
theorem dX10_written_15 : decode cX10_written 15 = .ok (.ifCond .eq 13, 3) := by decide +kernel
theorem dX10_written_18 : decode cX10_written 18 = .ok (.aload_n 0, 1) := by decide +kernel
theorem dX10_written_19 : decode cX10_written 19 = .ok (.getfield 51, 3) := by decide +kernel
theorem dX10_written_22 : decode cX10_written 22 = .ok (.iload_n 1, 1) := by decide +kernel
theorem dX10_written_23 : decode cX10_written 23 = .ok (.iaload, 1) := by decide +kernel
theorem dX10_written_24 : decode cX10_written 24 = .ok (.i2c, 1) := by decide +kernel
theorem dX10_written_25 : decode cX10_written 25 = .ok (.goto 4, 3) := by decide +kernel
theorem dX10_written_28 : decode cX10_written 28 = .ok (.iconst 0, 1) := by decide +kernel
theorem dX10_written_29 : decode cX10_written 29 = .ok (.ireturn, 1) := by decide +kernel
theorem dJ9_max_7cf53_0 : decode cJ9_max_7cf53 0 = .ok (.iload_n 0, 1) := by decide +kernel
theorem dJ9_max_7cf53_1 : decode cJ9_max_7cf53 1 = .ok (.iload_n 1, 1) := by decide +kernel
theorem dJ9_max_7cf53_2 : decode cJ9_max_7cf53 2 = .ok (.if_icmp .lt 7, 3) := by decide +kernel
theorem dJ9_max_7cf53_5 : decode cJ9_max_7cf53 5 = .ok (.iload_n 0, 1) := by decide +kernel
theorem dJ9_max_7cf53_6 : decode cJ9_max_7cf53 6 = .ok (.goto 4, 3) := by decide +kernel
theorem dJ9_max_7cf53_9 : decode cJ9_max_7cf53 9 = .ok (.iload_n 1, 1) := by decide +kernel
theorem dJ9_max_7cf53_10 : decode cJ9_max_7cf53 10 = .ok (.ireturn, 1) := by decide +kernel
theorem dJ9_min_7cf53_0 : decode cJ9_min_7cf53 0 = .ok (.iload_n 0, 1) := by decide +kernel
theorem dJ9_min_7cf53_1 : decode cJ9_min_7cf53 1 = .ok (.iload_n 1, 1) := by decide +kernel
theorem dJ9_min_7cf53_2 : decode cJ9_min_7cf53 2 = .ok (.if_icmp .gt 7, 3) := by decide +kernel
theorem dJ9_min_7cf53_5 : decode cJ9_min_7cf53 5 = .ok (.iload_n 0, 1) := by decide +kernel
theorem dJ9_min_7cf53_6 : decode cJ9_min_7cf53 6 = .ok (.goto 4, 3) := by decide +kernel
theorem dJ9_min_7cf53_9 : decode cJ9_min_7cf53 9 = .ok (.iload_n 1, 1) := by decide +kernel
theorem dJ9_min_7cf53_10 : decode cJ9_min_7cf53 10 = .ok (.ireturn, 1) := by decide +kernel
theorem dJ0_length_8abf5_0 : decode cJ0_length_8abf5 0 = .ok (.aload_n 0, 1) := by decide +kernel
theorem dJ0_length_8abf5_1 : decode cJ0_length_8abf5 1 = .ok (.getfield 9, 3) := by decide +kernel
theorem dJ0_length_8abf5_4 : decode cJ0_length_8abf5 4 = .ok (.arraylength, 1) := by decide +kernel
theorem dJ0_length_8abf5_5 : decode cJ0_length_8abf5 5 = .ok (.aload_n 0, 1) := by decide +kernel
theorem dJ0_length_8abf5_6 : decode cJ0_length_8abf5 6 = .ok (.invokevirtual 335, 3) := by decide +kernel
theorem dJ0_length_8abf5_9 : decode cJ0_length_8abf5 9 = .ok (.ishr, 1) := by decide +kernel
theorem dJ0_length_8abf5_10 : decode cJ0_length_8abf5 10 = .ok (.ireturn, 1) := by decide +kernel
theorem dJ0_charAt_5068e_0 : decode cJ0_charAt_5068e 0 = .ok (.aload_n 0, 1) := by decide +kernel
theorem dJ0_charAt_5068e_1 : decode cJ0_charAt_5068e 1 = .ok (.invokevirtual 492, 3) := by decide +kernel
theorem dJ0_charAt_5068e_4 : decode cJ0_charAt_5068e 4 = .ok (.ifCond .eq 12, 3) := by decide +kernel
theorem dJ0_charAt_5068e_7 : decode cJ0_charAt_5068e 7 = .ok (.aload_n 0, 1) := by decide +kernel
theorem dJ0_charAt_5068e_8 : decode cJ0_charAt_5068e 8 = .ok (.getfield 9, 3) := by decide +kernel
theorem dJ0_charAt_5068e_11 : decode cJ0_charAt_5068e 11 = .ok (.iload_n 1, 1) := by decide +kernel
theorem dJ0_charAt_5068e_12 : decode cJ0_charAt_5068e 12 = .ok (.invokestatic 495, 3) := by decide +kernel
theorem dJ0_charAt_5068e_15 : decode cJ0_charAt_5068e 15 = .ok (.ireturn, 1) := by decide +kernel
theorem dJ0_charAt_5068e_16 : decode cJ0_charAt_5068e 16 = .ok (.aload_n 0, 1) := by decide +kernel
theorem dJ0_charAt_5068e_17 : decode cJ0_charAt_5068e 17 = .ok (.getfield 9, 3) := by decide +kernel
theorem dJ0_charAt_5068e_20 : decode cJ0_charAt_5068e 20 = .ok (.iload_n 1, 1) := by decide +kernel
theorem dJ0_charAt_5068e_21 : decode cJ0_charAt_5068e 21 = .ok (.invokestatic 498, 3) := by decide +kernel
theorem dJ0_charAt_5068e_24 : decode cJ0_charAt_5068e 24 = .ok (.ireturn, 1) := by decide +kernel
theorem dJ0_coder_7d493_0 : decode cJ0_coder_7d493 0 = .ok (.getstatic 38, 3) := by decide +kernel
theorem dJ0_coder_7d493_3 : decode cJ0_coder_7d493 3 = .ok (.ifCond .eq 10, 3) := by decide +kernel
theorem dJ0_coder_7d493_6 : decode cJ0_coder_7d493 6 = .ok (.aload_n 0, 1) := by decide +kernel
theorem dJ0_coder_7d493_7 : decode cJ0_coder_7d493 7 = .ok (.getfield 15, 3) := by decide +kernel
theorem dJ0_coder_7d493_10 : decode cJ0_coder_7d493 10 = .ok (.goto 4, 3) := by decide +kernel
theorem dJ0_coder_7d493_13 : decode cJ0_coder_7d493 13 = .ok (.iconst 1, 1) := by decide +kernel
theorem dJ0_coder_7d493_14 : decode cJ0_coder_7d493 14 = .ok (.ireturn, 1) := by decide +kernel
theorem dJ0_isLatin1_aae02_0 : decode cJ0_isLatin1_aae02 0 = .ok (.getstatic 38, 3) := by decide +kernel
theorem dJ0_isLatin1_aae02_3 : decode cJ0_isLatin1_aae02 3 = .ok (.ifCond .eq 14, 3) := by decide +kernel
theorem dJ0_isLatin1_aae02_6 : decode cJ0_isLatin1_aae02 6 = .ok (.aload_n 0, 1) := by decide +kernel
theorem dJ0_isLatin1_aae02_7 : decode cJ0_isLatin1_aae02 7 = .ok (.getfield 15, 3) := by decide +kernel
theorem dJ0_isLatin1_aae02_10 : decode cJ0_isLatin1_aae02 10 = .ok (.ifCond .ne 7, 3) := by decide +kernel
theorem dJ0_isLatin1_aae02_13 : decode cJ0_isLatin1_aae02 13 = .ok (.iconst 1, 1) := by decide +kernel
theorem dJ0_isLatin1_aae02_14 : decode cJ0_isLatin1_aae02 14 = .ok (.goto 4, 3) := by decide +kernel
theorem dJ0_isLatin1_aae02_17 : decode cJ0_isLatin1_aae02 17 = .ok (.iconst 0, 1) := by decide +kernel
theorem dJ0_isLatin1_aae02_18 : decode cJ0_isLatin1_aae02 18 = .ok (.ireturn, 1) := by decide +kernel
theorem dJ0_checkIndex_df160_0 : decode cJ0_checkIndex_df160 0 = .ok (.iload_n 0, 1) := by decide +kernel
theorem dJ0_checkIndex_df160_1 : decode cJ0_checkIndex_df160 1 = .ok (.iload_n 1, 1) := by decide +kernel
theorem dJ0_checkIndex_df160_2 : decode cJ0_checkIndex_df160 2 = .ok (.getstatic 1053, 3) := by decide +kernel
theorem dJ0_checkIndex_df160_5 : decode cJ0_checkIndex_df160 5 = .ok (.invokestatic 1059, 3) := by decide +kernel
theorem dJ0_checkIndex_df160_8 : decode cJ0_checkIndex_df160 8 = .ok (.pop, 1) := by decide +kernel
theorem dJ0_checkIndex_df160_9 : decode cJ0_checkIndex_df160 9 = .ok (.return_, 1) := by decide +kernel
theorem dJ1_charAt_3b067_0 : decode cJ1_charAt_3b067 0 = .ok (.iload_n 1, 1) := by decide +kernel
theorem dJ1_charAt_3b067_1 : decode cJ1_charAt_3b067 1 = .ok (.aload_n 0, 1) := by decide +kernel
theorem dJ1_charAt_3b067_2 : decode cJ1_charAt_3b067 2 = .ok (.arraylength, 1) := by decide +kernel
theorem dJ1_charAt_3b067_3 : decode cJ1_charAt_3b067 3 = .ok (.invokestatic 9, 3) := by decide +kernel
theorem dJ1_charAt_3b067_6 : decode cJ1_charAt_3b067 6 = .ok (.aload_n 0, 1) := by decide +kernel
theorem dJ1_charAt_3b067_7 : decode cJ1_charAt_3b067 7 = .ok (.iload_n 1, 1) := by decide +kernel
theorem dJ1_charAt_3b067_8 : decode cJ1_charAt_3b067 8 = .ok (.baload, 1) := by decide +kernel
theorem dJ1_charAt_3b067_9 : decode cJ1_charAt_3b067 9 = .ok (.sipush 255, 3) := by decide +kernel
theorem dJ1_charAt_3b067_12 : decode cJ1_charAt_3b067 12 = .ok (.iand, 1) := by decide +kernel
theorem dJ1_charAt_3b067_13 : decode cJ1_charAt_3b067 13 = .ok (.i2c, 1) := by decide +kernel
theorem dJ1_charAt_3b067_14 : decode cJ1_charAt_3b067 14 = .ok (.ireturn, 1) := by decide +kernel
theorem dJ2_getChar_3b067_0 : decode cJ2_getChar_3b067 0 = .ok (.getstatic 44, 3) := by decide +kernel
theorem dJ2_getChar_3b067_3 : decode cJ2_getChar_3b067 3 = .ok (.ifCond .ne 25, 3) := by decide +kernel
theorem dJ2_getChar_3b067_6 : decode cJ2_getChar_3b067 6 = .ok (.iload_n 1, 1) := by decide +kernel
theorem dJ2_getChar_3b067_7 : decode cJ2_getChar_3b067 7 = .ok (.ifCond .lt 11, 3) := by decide +kernel
theorem dJ2_getChar_3b067_10 : decode cJ2_getChar_3b067 10 = .ok (.iload_n 1, 1) := by decide +kernel
theorem dJ2_getChar_3b067_11 : decode cJ2_getChar_3b067 11 = .ok (.aload_n 0, 1) := by decide +kernel
theorem dJ2_getChar_3b067_12 : decode cJ2_getChar_3b067 12 = .ok (.invokestatic 48, 3) := by decide +kernel
theorem dJ2_getChar_3b067_15 : decode cJ2_getChar_3b067 15 = .ok (.if_icmp .lt 13, 3) := by decide +kernel
theorem dJ2_getChar_3b067_18 : decode cJ2_getChar_3b067 18 = .ok (.new 52, 3) := by decide +kernel
theorem dJ2_getChar_3b067_21 : decode cJ2_getChar_3b067 21 = .ok (.dup, 1) := by decide +kernel
theorem dJ2_getChar_3b067_22 : decode cJ2_getChar_3b067 22 = .ok (.ldc 54, 2) := by decide +kernel
theorem dJ2_getChar_3b067_24 : decode cJ2_getChar_3b067 24 = .ok (.invokespecial 56, 3) := by decide +kernel
theorem dJ2_getChar_3b067_27 : decode cJ2_getChar_3b067 27 = .ok (.athrow, 1) := by decide +kernel
theorem dJ2_getChar_3b067_28 : decode cJ2_getChar_3b067 28 = .ok (.iload_n 1, 1) := by decide +kernel
theorem dJ2_getChar_3b067_29 : decode cJ2_getChar_3b067 29 = .ok (.iconst 1, 1) := by decide +kernel
theorem dJ2_getChar_3b067_30 : decode cJ2_getChar_3b067 30 = .ok (.ishl, 1) := by decide +kernel
theorem dJ2_getChar_3b067_31 : decode cJ2_getChar_3b067 31 = .ok (.istore_n 1, 1) := by decide +kernel
theorem dJ2_getChar_3b067_32 : decode cJ2_getChar_3b067 32 = .ok (.aload_n 0, 1) := by decide +kernel
theorem dJ2_getChar_3b067_33 : decode cJ2_getChar_3b067 33 = .ok (.iload_n 1, 1) := by decide +kernel
theorem dJ2_getChar_3b067_34 : decode cJ2_getChar_3b067 34 = .ok (.iinc 1 1, 3) := by decide +kernel
theorem dJ2_getChar_3b067_37 : decode cJ2_getChar_3b067 37 = .ok (.baload, 1) := by decide +kernel
theorem dJ2_getChar_3b067_38 : decode cJ2_getChar_3b067 38 = .ok (.sipush 255, 3) := by decide +kernel
theorem dJ2_getChar_3b067_41 : decode cJ2_getChar_3b067 41 = .ok (.iand, 1) := by decide +kernel
theorem dJ2_getChar_3b067_42 : decode cJ2_getChar_3b067 42 = .ok (.getstatic 59, 3) := by decide +kernel
theorem dJ2_getChar_3b067_45 : decode cJ2_getChar_3b067 45 = .ok (.ishl, 1) := by decide +kernel
theorem dJ2_getChar_3b067_46 : decode cJ2_getChar_3b067 46 = .ok (.aload_n 0, 1) := by decide +kernel
theorem dJ2_getChar_3b067_47 : decode cJ2_getChar_3b067 47 = .ok (.iload_n 1, 1) := by decide +kernel
theorem dJ2_getChar_3b067_48 : decode cJ2_getChar_3b067 48 = .ok (.baload, 1) := by decide +kernel
theorem dJ2_getChar_3b067_49 : decode cJ2_getChar_3b067 49 = .ok (.sipush 255, 3) := by decide +kernel
theorem dJ2_getChar_3b067_52 : decode cJ2_getChar_3b067 52 = .ok (.iand, 1) := by decide +kernel
theorem dJ2_getChar_3b067_53 : decode cJ2_getChar_3b067 53 = .ok (.getstatic 63, 3) := by decide +kernel
theorem dJ2_getChar_3b067_56 : decode cJ2_getChar_3b067 56 = .ok (.ishl, 1) := by decide +kernel
theorem dJ2_getChar_3b067_57 : decode cJ2_getChar_3b067 57 = .ok (.ior, 1) := by decide +kernel
theorem dJ2_getChar_3b067_58 : decode cJ2_getChar_3b067 58 = .ok (.i2c, 1) := by decide +kernel
theorem dJ2_getChar_3b067_59 : decode cJ2_getChar_3b067 59 = .ok (.ireturn, 1) := by decide +kernel
theorem dJ2_length_9d52b_0 : decode cJ2_length_9d52b 0 = .ok (.aload_n 0, 1) := by decide +kernel
theorem dJ2_length_9d52b_1 : decode cJ2_length_9d52b 1 = .ok (.arraylength, 1) := by decide +kernel
theorem dJ2_length_9d52b_2 : decode cJ2_length_9d52b 2 = .ok (.iconst 1, 1) := by decide +kernel
theorem dJ2_length_9d52b_3 : decode cJ2_length_9d52b 3 = .ok (.ishr, 1) := by decide +kernel
theorem dJ2_length_9d52b_4 : decode cJ2_length_9d52b 4 = .ok (.ireturn, 1) := by decide +kernel
theorem dJ2_charAt_3b067_0 : decode cJ2_charAt_3b067 0 = .ok (.iload_n 1, 1) := by decide +kernel
theorem dJ2_charAt_3b067_1 : decode cJ2_charAt_3b067 1 = .ok (.aload_n 0, 1) := by decide +kernel
theorem dJ2_charAt_3b067_2 : decode cJ2_charAt_3b067 2 = .ok (.invokestatic 67, 3) := by decide +kernel
theorem dJ2_charAt_3b067_5 : decode cJ2_charAt_3b067 5 = .ok (.aload_n 0, 1) := by decide +kernel
theorem dJ2_charAt_3b067_6 : decode cJ2_charAt_3b067 6 = .ok (.iload_n 1, 1) := by decide +kernel
theorem dJ2_charAt_3b067_7 : decode cJ2_charAt_3b067 7 = .ok (.invokestatic 71, 3) := by decide +kernel
theorem dJ2_charAt_3b067_10 : decode cJ2_charAt_3b067 10 = .ok (.ireturn, 1) := by decide +kernel
theorem dJ2_checkIndex_2214a_0 : decode cJ2_checkIndex_2214a 0 = .ok (.iload_n 0, 1) := by decide +kernel
theorem dJ2_checkIndex_2214a_1 : decode cJ2_checkIndex_2214a 1 = .ok (.aload_n 1, 1) := by decide +kernel
theorem dJ2_checkIndex_2214a_2 : decode cJ2_checkIndex_2214a 2 = .ok (.invokestatic 48, 3) := by decide +kernel
theorem dJ2_checkIndex_2214a_5 : decode cJ2_checkIndex_2214a 5 = .ok (.invokestatic 414, 3) := by decide +kernel
theorem dJ2_checkIndex_2214a_8 : decode cJ2_checkIndex_2214a 8 = .ok (.return_, 1) := by decide +kernel
theorem dJ3_checkIndex_8e157_0 : decode cJ3_checkIndex_8e157 0 = .ok (.iload_n 0, 1) := by decide +kernel
theorem dJ3_checkIndex_8e157_1 : decode cJ3_checkIndex_8e157 1 = .ok (.ifCond .lt 8, 3) := by decide +kernel
theorem dJ3_checkIndex_8e157_4 : decode cJ3_checkIndex_8e157 4 = .ok (.iload_n 0, 1) := by decide +kernel
theorem dJ3_checkIndex_8e157_5 : decode cJ3_checkIndex_8e157 5 = .ok (.iload_n 1, 1) := by decide +kernel
theorem dJ3_checkIndex_8e157_6 : decode cJ3_checkIndex_8e157 6 = .ok (.if_icmp .lt 10, 3) := by decide +kernel
theorem dJ3_checkIndex_8e157_9 : decode cJ3_checkIndex_8e157 9 = .ok (.aload_n 2, 1) := by decide +kernel
theorem dJ3_checkIndex_8e157_10 : decode cJ3_checkIndex_8e157 10 = .ok (.iload_n 0, 1) := by decide +kernel
theorem dJ3_checkIndex_8e157_11 : decode cJ3_checkIndex_8e157 11 = .ok (.iload_n 1, 1) := by decide +kernel
theorem dJ3_checkIndex_8e157_12 : decode cJ3_checkIndex_8e157 12 = .ok (.invokestatic 95, 3) := by decide +kernel
theorem dJ3_checkIndex_8e157_15 : decode cJ3_checkIndex_8e157 15 = .ok (.athrow, 1) := by decide +kernel
theorem dJ3_checkIndex_8e157_16 : decode cJ3_checkIndex_8e157 16 = .ok (.iload_n 0, 1) := by decide +kernel
theorem dJ3_checkIndex_8e157_17 : decode cJ3_checkIndex_8e157 17 = .ok (.ireturn, 1) := by decide +kernel
theorem dL_load_0 : decode cL_load 0 = .ok (.aload_n 2, 1) := by decide +kernel
theorem dL_load_1 : decode cL_load 1 = .ok (.iconst 0, 1) := by decide +kernel
theorem dL_load_2 : decode cL_load 2 = .ok (.aload_n 0, 1) := by decide +kernel
theorem dL_load_3 : decode cL_load 3 = .ok (.iload_n 1, 1) := by decide +kernel
theorem dL_load_4 : decode cL_load 4 = .ok (.invokevirtual 7, 3) := by decide +kernel
theorem dL_load_7 : decode cL_load 7 = .ok (.i2l, 1) := by decide +kernel
theorem dL_load_8 : decode cL_load 8 = .ok (.lastore, 1) := by decide +kernel
theorem dL_load_9 : decode cL_load 9 = .ok (.goto 6, 3) := by decide +kernel
theorem dL_load_12 : decode cL_load 12 = .ok (.astore_n 3, 1) := by decide +kernel
theorem dL_load_13 : decode cL_load 13 = .ok (.iconst 1, 1) := by decide +kernel
theorem dL_load_14 : decode cL_load 14 = .ok (.ireturn, 1) := by decide +kernel
theorem dL_load_15 : decode cL_load 15 = .ok (.iconst 0, 1) := by decide +kernel
theorem dL_load_16 : decode cL_load 16 = .ok (.ireturn, 1) := by decide +kernel
theorem dL_times_0 : decode cL_times 0 = .ok (.aload 4, 2) := by decide +kernel
theorem dL_times_2 : decode cL_times 2 = .ok (.iconst 0, 1) := by decide +kernel
theorem dL_times_3 : decode cL_times 3 = .ok (.aload_n 0, 1) := by decide +kernel
theorem dL_times_4 : decode cL_times 4 = .ok (.iload_n 1, 1) := by decide +kernel
theorem dL_times_5 : decode cL_times 5 = .ok (.iload_n 2, 1) := by decide +kernel
theorem dL_times_6 : decode cL_times 6 = .ok (.iload_n 3, 1) := by decide +kernel
theorem dL_times_7 : decode cL_times 7 = .ok (.invokevirtual 15, 3) := by decide +kernel
theorem dL_times_10 : decode cL_times 10 = .ok (.i2l, 1) := by decide +kernel
theorem dL_times_11 : decode cL_times 11 = .ok (.lastore, 1) := by decide +kernel
theorem dL_times_12 : decode cL_times 12 = .ok (.goto 7, 3) := by decide +kernel
theorem dL_times_15 : decode cL_times 15 = .ok (.astore 5, 2) := by decide +kernel
theorem dL_times_17 : decode cL_times 17 = .ok (.iconst 1, 1) := by decide +kernel
theorem dL_times_18 : decode cL_times 18 = .ok (.ireturn, 1) := by decide +kernel
theorem dL_times_19 : decode cL_times 19 = .ok (.iconst 0, 1) := by decide +kernel
theorem dL_times_20 : decode cL_times 20 = .ok (.ireturn, 1) := by decide +kernel
theorem dL_degree_0 : decode cL_degree 0 = .ok (.aload_n 3, 1) := by decide +kernel
theorem dL_degree_1 : decode cL_degree 1 = .ok (.iconst 0, 1) := by decide +kernel
theorem dL_degree_2 : decode cL_degree 2 = .ok (.aload_n 0, 1) := by decide +kernel
theorem dL_degree_3 : decode cL_degree 3 = .ok (.iload_n 1, 1) := by decide +kernel
theorem dL_degree_4 : decode cL_degree 4 = .ok (.iload_n 2, 1) := by decide +kernel
theorem dL_degree_5 : decode cL_degree 5 = .ok (.invokevirtual 21, 3) := by decide +kernel
theorem dL_degree_8 : decode cL_degree 8 = .ok (.i2l, 1) := by decide +kernel
theorem dL_degree_9 : decode cL_degree 9 = .ok (.lastore, 1) := by decide +kernel
theorem dL_degree_10 : decode cL_degree 10 = .ok (.goto 7, 3) := by decide +kernel
theorem dL_degree_13 : decode cL_degree 13 = .ok (.astore 4, 2) := by decide +kernel
theorem dL_degree_15 : decode cL_degree 15 = .ok (.iconst 1, 1) := by decide +kernel
theorem dL_degree_16 : decode cL_degree 16 = .ok (.ireturn, 1) := by decide +kernel
theorem dL_degree_17 : decode cL_degree 17 = .ok (.iconst 0, 1) := by decide +kernel
theorem dL_degree_18 : decode cL_degree 18 = .ok (.ireturn, 1) := by decide +kernel
theorem dL_neighbours_0 : decode cL_neighbours 0 = .ok (.aload_n 2, 1) := by decide +kernel
theorem dL_neighbours_1 : decode cL_neighbours 1 = .ok (.iconst 0, 1) := by decide +kernel
theorem dL_neighbours_2 : decode cL_neighbours 2 = .ok (.aload_n 0, 1) := by decide +kernel
theorem dL_neighbours_3 : decode cL_neighbours 3 = .ok (.iload_n 1, 1) := by decide +kernel
theorem dL_neighbours_4 : decode cL_neighbours 4 = .ok (.invokevirtual 25, 3) := by decide +kernel
theorem dL_neighbours_7 : decode cL_neighbours 7 = .ok (.i2l, 1) := by decide +kernel
theorem dL_neighbours_8 : decode cL_neighbours 8 = .ok (.lastore, 1) := by decide +kernel
theorem dL_neighbours_9 : decode cL_neighbours 9 = .ok (.goto 6, 3) := by decide +kernel
theorem dL_neighbours_12 : decode cL_neighbours 12 = .ok (.astore_n 3, 1) := by decide +kernel
theorem dL_neighbours_13 : decode cL_neighbours 13 = .ok (.iconst 1, 1) := by decide +kernel
theorem dL_neighbours_14 : decode cL_neighbours 14 = .ok (.ireturn, 1) := by decide +kernel
theorem dL_neighbours_15 : decode cL_neighbours 15 = .ok (.iconst 0, 1) := by decide +kernel
theorem dL_neighbours_16 : decode cL_neighbours 16 = .ok (.ireturn, 1) := by decide +kernel
theorem dL_component_0 : decode cL_component 0 = .ok (.aload_n 2, 1) := by decide +kernel
theorem dL_component_1 : decode cL_component 1 = .ok (.iconst 0, 1) := by decide +kernel
theorem dL_component_2 : decode cL_component 2 = .ok (.aload_n 0, 1) := by decide +kernel
theorem dL_component_3 : decode cL_component 3 = .ok (.iload_n 1, 1) := by decide +kernel
theorem dL_component_4 : decode cL_component 4 = .ok (.invokevirtual 28, 3) := by decide +kernel
theorem dL_component_7 : decode cL_component 7 = .ok (.i2l, 1) := by decide +kernel
theorem dL_component_8 : decode cL_component 8 = .ok (.lastore, 1) := by decide +kernel
theorem dL_component_9 : decode cL_component 9 = .ok (.goto 6, 3) := by decide +kernel
theorem dL_component_12 : decode cL_component 12 = .ok (.astore_n 3, 1) := by decide +kernel
theorem dL_component_13 : decode cL_component 13 = .ok (.iconst 1, 1) := by decide +kernel
theorem dL_component_14 : decode cL_component 14 = .ok (.ireturn, 1) := by decide +kernel
theorem dL_component_15 : decode cL_component 15 = .ok (.iconst 0, 1) := by decide +kernel
theorem dL_component_16 : decode cL_component 16 = .ok (.ireturn, 1) := by decide +kernel
theorem dL_isBridge_0 : decode cL_isBridge 0 = .ok (.aload_n 3, 1) := by decide +kernel
theorem dL_isBridge_1 : decode cL_isBridge 1 = .ok (.iconst 0, 1) := by decide +kernel
theorem dL_isBridge_2 : decode cL_isBridge 2 = .ok (.aload_n 0, 1) := by decide +kernel
theorem dL_isBridge_3 : decode cL_isBridge 3 = .ok (.iload_n 1, 1) := by decide +kernel
theorem dL_isBridge_4 : decode cL_isBridge 4 = .ok (.iload_n 2, 1) := by decide +kernel
theorem dL_isBridge_5 : decode cL_isBridge 5 = .ok (.invokevirtual 31, 3) := by decide +kernel
theorem dL_isBridge_8 : decode cL_isBridge 8 = .ok (.ifCond .eq 7, 3) := by decide +kernel
theorem dL_isBridge_11 : decode cL_isBridge 11 = .ok (.lconst 1, 1) := by decide +kernel
theorem dL_isBridge_12 : decode cL_isBridge 12 = .ok (.goto 4, 3) := by decide +kernel
theorem dL_isBridge_15 : decode cL_isBridge 15 = .ok (.lconst 0, 1) := by decide +kernel
theorem dL_isBridge_16 : decode cL_isBridge 16 = .ok (.lastore, 1) := by decide +kernel
theorem dL_isBridge_17 : decode cL_isBridge 17 = .ok (.goto 11, 3) := by decide +kernel
theorem dL_isBridge_20 : decode cL_isBridge 20 = .ok (.astore 4, 2) := by decide +kernel
theorem dL_isBridge_22 : decode cL_isBridge 22 = .ok (.iconst 1, 1) := by decide +kernel
theorem dL_isBridge_23 : decode cL_isBridge 23 = .ok (.ireturn, 1) := by decide +kernel
theorem dL_isBridge_24 : decode cL_isBridge 24 = .ok (.astore 4, 2) := by decide +kernel
theorem dL_isBridge_26 : decode cL_isBridge 26 = .ok (.iconst 2, 1) := by decide +kernel
theorem dL_isBridge_27 : decode cL_isBridge 27 = .ok (.ireturn, 1) := by decide +kernel
theorem dL_isBridge_28 : decode cL_isBridge 28 = .ok (.iconst 0, 1) := by decide +kernel
theorem dL_isBridge_29 : decode cL_isBridge 29 = .ok (.ireturn, 1) := by decide +kernel
theorem dL_way_0 : decode cL_way 0 = .ok (.aload_n 3, 1) := by decide +kernel
theorem dL_way_1 : decode cL_way 1 = .ok (.iconst 0, 1) := by decide +kernel
theorem dL_way_2 : decode cL_way 2 = .ok (.aload_n 0, 1) := by decide +kernel
theorem dL_way_3 : decode cL_way 3 = .ok (.iload_n 1, 1) := by decide +kernel
theorem dL_way_4 : decode cL_way 4 = .ok (.iload_n 2, 1) := by decide +kernel
theorem dL_way_5 : decode cL_way 5 = .ok (.invokevirtual 37, 3) := by decide +kernel
theorem dL_way_8 : decode cL_way 8 = .ok (.i2l, 1) := by decide +kernel
theorem dL_way_9 : decode cL_way 9 = .ok (.lastore, 1) := by decide +kernel
theorem dL_way_10 : decode cL_way 10 = .ok (.goto 7, 3) := by decide +kernel
theorem dL_way_13 : decode cL_way 13 = .ok (.astore 4, 2) := by decide +kernel
theorem dL_way_15 : decode cL_way 15 = .ok (.iconst 1, 1) := by decide +kernel
theorem dL_way_16 : decode cL_way 16 = .ok (.ireturn, 1) := by decide +kernel
theorem dL_way_17 : decode cL_way 17 = .ok (.iconst 0, 1) := by decide +kernel
theorem dL_way_18 : decode cL_way 18 = .ok (.ireturn, 1) := by decide +kernel
theorem dL_sorted_0 : decode cL_sorted 0 = .ok (.aload_n 2, 1) := by decide +kernel
theorem dL_sorted_1 : decode cL_sorted 1 = .ok (.iconst 0, 1) := by decide +kernel
theorem dL_sorted_2 : decode cL_sorted 2 = .ok (.aload_n 0, 1) := by decide +kernel
theorem dL_sorted_3 : decode cL_sorted 3 = .ok (.iload_n 1, 1) := by decide +kernel
theorem dL_sorted_4 : decode cL_sorted 4 = .ok (.invokevirtual 41, 3) := by decide +kernel
theorem dL_sorted_7 : decode cL_sorted 7 = .ok (.i2l, 1) := by decide +kernel
theorem dL_sorted_8 : decode cL_sorted 8 = .ok (.lastore, 1) := by decide +kernel
theorem dL_sorted_9 : decode cL_sorted 9 = .ok (.goto 6, 3) := by decide +kernel
theorem dL_sorted_12 : decode cL_sorted 12 = .ok (.astore_n 3, 1) := by decide +kernel
theorem dL_sorted_13 : decode cL_sorted 13 = .ok (.iconst 1, 1) := by decide +kernel
theorem dL_sorted_14 : decode cL_sorted 14 = .ok (.ireturn, 1) := by decide +kernel
theorem dL_sorted_15 : decode cL_sorted 15 = .ok (.iconst 0, 1) := by decide +kernel
theorem dL_sorted_16 : decode cL_sorted 16 = .ok (.ireturn, 1) := by decide +kernel
theorem dL_slack_0 : decode cL_slack 0 = .ok (.aload_n 2, 1) := by decide +kernel
theorem dL_slack_1 : decode cL_slack 1 = .ok (.iconst 0, 1) := by decide +kernel
theorem dL_slack_2 : decode cL_slack 2 = .ok (.aload_n 0, 1) := by decide +kernel
theorem dL_slack_3 : decode cL_slack 3 = .ok (.iload_n 1, 1) := by decide +kernel
theorem dL_slack_4 : decode cL_slack 4 = .ok (.invokevirtual 44, 3) := by decide +kernel
theorem dL_slack_7 : decode cL_slack 7 = .ok (.i2l, 1) := by decide +kernel
theorem dL_slack_8 : decode cL_slack 8 = .ok (.lastore, 1) := by decide +kernel
theorem dL_slack_9 : decode cL_slack 9 = .ok (.goto 6, 3) := by decide +kernel
theorem dL_slack_12 : decode cL_slack 12 = .ok (.astore_n 3, 1) := by decide +kernel
theorem dL_slack_13 : decode cL_slack 13 = .ok (.iconst 1, 1) := by decide +kernel
theorem dL_slack_14 : decode cL_slack 14 = .ok (.ireturn, 1) := by decide +kernel
theorem dL_slack_15 : decode cL_slack 15 = .ok (.iconst 0, 1) := by decide +kernel
theorem dL_slack_16 : decode cL_slack 16 = .ok (.ireturn, 1) := by decide +kernel
theorem dL_isPossible_0 : decode cL_isPossible 0 = .ok (.aload_n 2, 1) := by decide +kernel
theorem dL_isPossible_1 : decode cL_isPossible 1 = .ok (.iconst 0, 1) := by decide +kernel
theorem dL_isPossible_2 : decode cL_isPossible 2 = .ok (.aload_n 0, 1) := by decide +kernel
theorem dL_isPossible_3 : decode cL_isPossible 3 = .ok (.iload_n 1, 1) := by decide +kernel
theorem dL_isPossible_4 : decode cL_isPossible 4 = .ok (.invokevirtual 47, 3) := by decide +kernel
theorem dL_isPossible_7 : decode cL_isPossible 7 = .ok (.ifCond .eq 7, 3) := by decide +kernel
theorem dL_isPossible_10 : decode cL_isPossible 10 = .ok (.lconst 1, 1) := by decide +kernel
theorem dL_isPossible_11 : decode cL_isPossible 11 = .ok (.goto 4, 3) := by decide +kernel
theorem dL_isPossible_14 : decode cL_isPossible 14 = .ok (.lconst 0, 1) := by decide +kernel
theorem dL_isPossible_15 : decode cL_isPossible 15 = .ok (.lastore, 1) := by decide +kernel
theorem dL_isPossible_16 : decode cL_isPossible 16 = .ok (.goto 6, 3) := by decide +kernel
theorem dL_isPossible_19 : decode cL_isPossible 19 = .ok (.astore_n 3, 1) := by decide +kernel
theorem dL_isPossible_20 : decode cL_isPossible 20 = .ok (.iconst 1, 1) := by decide +kernel
theorem dL_isPossible_21 : decode cL_isPossible 21 = .ok (.ireturn, 1) := by decide +kernel
theorem dL_isPossible_22 : decode cL_isPossible 22 = .ok (.iconst 0, 1) := by decide +kernel
theorem dL_isPossible_23 : decode cL_isPossible 23 = .ok (.ireturn, 1) := by decide +kernel
theorem dL_reason_0 : decode cL_reason 0 = .ok (.aload 5, 2) := by decide +kernel
theorem dL_reason_2 : decode cL_reason 2 = .ok (.iconst 0, 1) := by decide +kernel
theorem dL_reason_3 : decode cL_reason 3 = .ok (.aload_n 0, 1) := by decide +kernel
theorem dL_reason_4 : decode cL_reason 4 = .ok (.iload_n 1, 1) := by decide +kernel
theorem dL_reason_5 : decode cL_reason 5 = .ok (.iload_n 2, 1) := by decide +kernel
theorem dL_reason_6 : decode cL_reason 6 = .ok (.iload_n 3, 1) := by decide +kernel
theorem dL_reason_7 : decode cL_reason 7 = .ok (.iload 4, 2) := by decide +kernel
theorem dL_reason_9 : decode cL_reason 9 = .ok (.invokevirtual 51, 3) := by decide +kernel
theorem dL_reason_12 : decode cL_reason 12 = .ok (.i2l, 1) := by decide +kernel
theorem dL_reason_13 : decode cL_reason 13 = .ok (.lastore, 1) := by decide +kernel
theorem dL_reason_14 : decode cL_reason 14 = .ok (.goto 7, 3) := by decide +kernel
theorem dL_reason_17 : decode cL_reason 17 = .ok (.astore 6, 2) := by decide +kernel
theorem dL_reason_19 : decode cL_reason 19 = .ok (.iconst 1, 1) := by decide +kernel
theorem dL_reason_20 : decode cL_reason 20 = .ok (.ireturn, 1) := by decide +kernel
theorem dL_reason_21 : decode cL_reason 21 = .ok (.iconst 0, 1) := by decide +kernel
theorem dL_reason_22 : decode cL_reason 22 = .ok (.ireturn, 1) := by decide +kernel
theorem dL_switchAt_0 : decode cL_switchAt 0 = .ok (.aload_n 3, 1) := by decide +kernel
theorem dL_switchAt_1 : decode cL_switchAt 1 = .ok (.iconst 0, 1) := by decide +kernel
theorem dL_switchAt_2 : decode cL_switchAt 2 = .ok (.aload_n 0, 1) := by decide +kernel
theorem dL_switchAt_3 : decode cL_switchAt 3 = .ok (.iload_n 1, 1) := by decide +kernel
theorem dL_switchAt_4 : decode cL_switchAt 4 = .ok (.iload_n 2, 1) := by decide +kernel
theorem dL_switchAt_5 : decode cL_switchAt 5 = .ok (.invokevirtual 55, 3) := by decide +kernel
theorem dL_switchAt_8 : decode cL_switchAt 8 = .ok (.i2l, 1) := by decide +kernel
theorem dL_switchAt_9 : decode cL_switchAt 9 = .ok (.lastore, 1) := by decide +kernel
theorem dL_switchAt_10 : decode cL_switchAt 10 = .ok (.goto 11, 3) := by decide +kernel
theorem dL_switchAt_13 : decode cL_switchAt 13 = .ok (.astore 4, 2) := by decide +kernel
theorem dL_switchAt_15 : decode cL_switchAt 15 = .ok (.iconst 1, 1) := by decide +kernel
theorem dL_switchAt_16 : decode cL_switchAt 16 = .ok (.ireturn, 1) := by decide +kernel
theorem dL_switchAt_17 : decode cL_switchAt 17 = .ok (.astore 4, 2) := by decide +kernel
theorem dL_switchAt_19 : decode cL_switchAt 19 = .ok (.iconst 2, 1) := by decide +kernel
theorem dL_switchAt_20 : decode cL_switchAt 20 = .ok (.ireturn, 1) := by decide +kernel
theorem dL_switchAt_21 : decode cL_switchAt 21 = .ok (.iconst 0, 1) := by decide +kernel
theorem dL_switchAt_22 : decode cL_switchAt 22 = .ok (.ireturn, 1) := by decide +kernel
theorem dL_componentsBehind_0 : decode cL_componentsBehind 0 = .ok (.aload 5, 2) := by decide +kernel
theorem dL_componentsBehind_2 : decode cL_componentsBehind 2 = .ok (.iconst 0, 1) := by decide +kernel
theorem dL_componentsBehind_3 : decode cL_componentsBehind 3 = .ok (.aload_n 0, 1) := by decide +kernel
theorem dL_componentsBehind_4 : decode cL_componentsBehind 4 = .ok (.iload_n 1, 1) := by decide +kernel
theorem dL_componentsBehind_5 : decode cL_componentsBehind 5 = .ok (.iload_n 2, 1) := by decide +kernel
theorem dL_componentsBehind_6 : decode cL_componentsBehind 6 = .ok (.iload_n 3, 1) := by decide +kernel
theorem dL_componentsBehind_7 : decode cL_componentsBehind 7 = .ok (.iload 4, 2) := by decide +kernel
theorem dL_componentsBehind_9 : decode cL_componentsBehind 9 = .ok (.invokevirtual 58, 3) := by decide +kernel
theorem dL_componentsBehind_12 : decode cL_componentsBehind 12 = .ok (.i2l, 1) := by decide +kernel
theorem dL_componentsBehind_13 : decode cL_componentsBehind 13 = .ok (.lastore, 1) := by decide +kernel
theorem dL_componentsBehind_14 : decode cL_componentsBehind 14 = .ok (.goto 11, 3) := by decide +kernel
theorem dL_componentsBehind_17 : decode cL_componentsBehind 17 = .ok (.astore 6, 2) := by decide +kernel
theorem dL_componentsBehind_19 : decode cL_componentsBehind 19 = .ok (.iconst 1, 1) := by decide +kernel
theorem dL_componentsBehind_20 : decode cL_componentsBehind 20 = .ok (.ireturn, 1) := by decide +kernel
theorem dL_componentsBehind_21 : decode cL_componentsBehind 21 = .ok (.astore 6, 2) := by decide +kernel
theorem dL_componentsBehind_23 : decode cL_componentsBehind 23 = .ok (.iconst 2, 1) := by decide +kernel
theorem dL_componentsBehind_24 : decode cL_componentsBehind 24 = .ok (.ireturn, 1) := by decide +kernel
theorem dL_componentsBehind_25 : decode cL_componentsBehind 25 = .ok (.iconst 0, 1) := by decide +kernel
theorem dL_componentsBehind_26 : decode cL_componentsBehind 26 = .ok (.ireturn, 1) := by decide +kernel
theorem dL_nearest_0 : decode cL_nearest 0 = .ok (.aload_n 1, 1) := by decide +kernel
theorem dL_nearest_1 : decode cL_nearest 1 = .ok (.iconst 0, 1) := by decide +kernel
theorem dL_nearest_2 : decode cL_nearest 2 = .ok (.aload_n 0, 1) := by decide +kernel
theorem dL_nearest_3 : decode cL_nearest 3 = .ok (.invokevirtual 63, 3) := by decide +kernel
theorem dL_nearest_6 : decode cL_nearest 6 = .ok (.i2l, 1) := by decide +kernel
theorem dL_nearest_7 : decode cL_nearest 7 = .ok (.lastore, 1) := by decide +kernel
theorem dL_nearest_8 : decode cL_nearest 8 = .ok (.goto 6, 3) := by decide +kernel
theorem dL_nearest_11 : decode cL_nearest 11 = .ok (.astore_n 2, 1) := by decide +kernel
theorem dL_nearest_12 : decode cL_nearest 12 = .ok (.iconst 1, 1) := by decide +kernel
theorem dL_nearest_13 : decode cL_nearest 13 = .ok (.ireturn, 1) := by decide +kernel
theorem dL_nearest_14 : decode cL_nearest 14 = .ok (.iconst 0, 1) := by decide +kernel
theorem dL_nearest_15 : decode cL_nearest 15 = .ok (.ireturn, 1) := by decide +kernel
theorem dL_pathLength_0 : decode cL_pathLength 0 = .ok (.aload_n 1, 1) := by decide +kernel
theorem dL_pathLength_1 : decode cL_pathLength 1 = .ok (.iconst 0, 1) := by decide +kernel
theorem dL_pathLength_2 : decode cL_pathLength 2 = .ok (.aload_n 0, 1) := by decide +kernel
theorem dL_pathLength_3 : decode cL_pathLength 3 = .ok (.invokevirtual 67, 3) := by decide +kernel
theorem dL_pathLength_6 : decode cL_pathLength 6 = .ok (.i2l, 1) := by decide +kernel
theorem dL_pathLength_7 : decode cL_pathLength 7 = .ok (.lastore, 1) := by decide +kernel
theorem dL_pathLength_8 : decode cL_pathLength 8 = .ok (.goto 6, 3) := by decide +kernel
theorem dL_pathLength_11 : decode cL_pathLength 11 = .ok (.astore_n 2, 1) := by decide +kernel
theorem dL_pathLength_12 : decode cL_pathLength 12 = .ok (.iconst 1, 1) := by decide +kernel
theorem dL_pathLength_13 : decode cL_pathLength 13 = .ok (.ireturn, 1) := by decide +kernel
theorem dL_pathLength_14 : decode cL_pathLength 14 = .ok (.iconst 0, 1) := by decide +kernel
theorem dL_pathLength_15 : decode cL_pathLength 15 = .ok (.ireturn, 1) := by decide +kernel
theorem dL_path_0 : decode cL_path 0 = .ok (.aload_n 3, 1) := by decide +kernel
theorem dL_path_1 : decode cL_path 1 = .ok (.iconst 0, 1) := by decide +kernel
theorem dL_path_2 : decode cL_path 2 = .ok (.aload_n 0, 1) := by decide +kernel
theorem dL_path_3 : decode cL_path 3 = .ok (.iload_n 1, 1) := by decide +kernel
theorem dL_path_4 : decode cL_path 4 = .ok (.iload_n 2, 1) := by decide +kernel
theorem dL_path_5 : decode cL_path 5 = .ok (.invokevirtual 70, 3) := by decide +kernel
theorem dL_path_8 : decode cL_path 8 = .ok (.i2l, 1) := by decide +kernel
theorem dL_path_9 : decode cL_path 9 = .ok (.lastore, 1) := by decide +kernel
theorem dL_path_10 : decode cL_path 10 = .ok (.goto 15, 3) := by decide +kernel
theorem dL_path_13 : decode cL_path 13 = .ok (.astore 4, 2) := by decide +kernel
theorem dL_path_15 : decode cL_path 15 = .ok (.iconst 1, 1) := by decide +kernel
theorem dL_path_16 : decode cL_path 16 = .ok (.ireturn, 1) := by decide +kernel
theorem dL_path_17 : decode cL_path 17 = .ok (.astore 4, 2) := by decide +kernel
theorem dL_path_19 : decode cL_path 19 = .ok (.iconst 2, 1) := by decide +kernel
theorem dL_path_20 : decode cL_path 20 = .ok (.ireturn, 1) := by decide +kernel
theorem dL_path_21 : decode cL_path 21 = .ok (.astore 4, 2) := by decide +kernel
theorem dL_path_23 : decode cL_path 23 = .ok (.iconst 3, 1) := by decide +kernel
theorem dL_path_24 : decode cL_path 24 = .ok (.ireturn, 1) := by decide +kernel
theorem dL_path_25 : decode cL_path 25 = .ok (.iconst 0, 1) := by decide +kernel
theorem dL_path_26 : decode cL_path 26 = .ok (.ireturn, 1) := by decide +kernel
theorem dL_distance_0 : decode cL_distance 0 = .ok (.aload_n 1, 1) := by decide +kernel
theorem dL_distance_1 : decode cL_distance 1 = .ok (.iconst 0, 1) := by decide +kernel
theorem dL_distance_2 : decode cL_distance 2 = .ok (.aload_n 0, 1) := by decide +kernel
theorem dL_distance_3 : decode cL_distance 3 = .ok (.invokevirtual 73, 3) := by decide +kernel
theorem dL_distance_6 : decode cL_distance 6 = .ok (.i2l, 1) := by decide +kernel
theorem dL_distance_7 : decode cL_distance 7 = .ok (.lastore, 1) := by decide +kernel
theorem dL_distance_8 : decode cL_distance 8 = .ok (.goto 6, 3) := by decide +kernel
theorem dL_distance_11 : decode cL_distance 11 = .ok (.astore_n 2, 1) := by decide +kernel
theorem dL_distance_12 : decode cL_distance 12 = .ok (.iconst 1, 1) := by decide +kernel
theorem dL_distance_13 : decode cL_distance 13 = .ok (.ireturn, 1) := by decide +kernel
theorem dL_distance_14 : decode cL_distance 14 = .ok (.iconst 0, 1) := by decide +kernel
theorem dL_distance_15 : decode cL_distance 15 = .ok (.ireturn, 1) := by decide +kernel
theorem dL_addEdge_0 : decode cL_addEdge 0 = .ok (.aload_n 3, 1) := by decide +kernel
theorem dL_addEdge_1 : decode cL_addEdge 1 = .ok (.iconst 0, 1) := by decide +kernel
theorem dL_addEdge_2 : decode cL_addEdge 2 = .ok (.aload_n 0, 1) := by decide +kernel
theorem dL_addEdge_3 : decode cL_addEdge 3 = .ok (.iload_n 1, 1) := by decide +kernel
theorem dL_addEdge_4 : decode cL_addEdge 4 = .ok (.iload_n 2, 1) := by decide +kernel
theorem dL_addEdge_5 : decode cL_addEdge 5 = .ok (.invokevirtual 76, 3) := by decide +kernel
theorem dL_addEdge_8 : decode cL_addEdge 8 = .ok (.i2l, 1) := by decide +kernel
theorem dL_addEdge_9 : decode cL_addEdge 9 = .ok (.lastore, 1) := by decide +kernel
theorem dL_addEdge_10 : decode cL_addEdge 10 = .ok (.goto 11, 3) := by decide +kernel
theorem dL_addEdge_13 : decode cL_addEdge 13 = .ok (.astore 4, 2) := by decide +kernel
theorem dL_addEdge_15 : decode cL_addEdge 15 = .ok (.iconst 1, 1) := by decide +kernel
theorem dL_addEdge_16 : decode cL_addEdge 16 = .ok (.ireturn, 1) := by decide +kernel
theorem dL_addEdge_17 : decode cL_addEdge 17 = .ok (.astore 4, 2) := by decide +kernel
theorem dL_addEdge_19 : decode cL_addEdge 19 = .ok (.iconst 2, 1) := by decide +kernel
theorem dL_addEdge_20 : decode cL_addEdge 20 = .ok (.ireturn, 1) := by decide +kernel
theorem dL_addEdge_21 : decode cL_addEdge 21 = .ok (.iconst 0, 1) := by decide +kernel
theorem dL_addEdge_22 : decode cL_addEdge 22 = .ok (.ireturn, 1) := by decide +kernel
theorem dL_removeEdge_0 : decode cL_removeEdge 0 = .ok (.aload_n 3, 1) := by decide +kernel
theorem dL_removeEdge_1 : decode cL_removeEdge 1 = .ok (.iconst 0, 1) := by decide +kernel
theorem dL_removeEdge_2 : decode cL_removeEdge 2 = .ok (.aload_n 0, 1) := by decide +kernel
theorem dL_removeEdge_3 : decode cL_removeEdge 3 = .ok (.iload_n 1, 1) := by decide +kernel
theorem dL_removeEdge_4 : decode cL_removeEdge 4 = .ok (.iload_n 2, 1) := by decide +kernel
theorem dL_removeEdge_5 : decode cL_removeEdge 5 = .ok (.invokevirtual 79, 3) := by decide +kernel
theorem dL_removeEdge_8 : decode cL_removeEdge 8 = .ok (.i2l, 1) := by decide +kernel
theorem dL_removeEdge_9 : decode cL_removeEdge 9 = .ok (.lastore, 1) := by decide +kernel
theorem dL_removeEdge_10 : decode cL_removeEdge 10 = .ok (.goto 11, 3) := by decide +kernel
theorem dL_removeEdge_13 : decode cL_removeEdge 13 = .ok (.astore 4, 2) := by decide +kernel
theorem dL_removeEdge_15 : decode cL_removeEdge 15 = .ok (.iconst 1, 1) := by decide +kernel
theorem dL_removeEdge_16 : decode cL_removeEdge 16 = .ok (.ireturn, 1) := by decide +kernel
theorem dL_removeEdge_17 : decode cL_removeEdge 17 = .ok (.astore 4, 2) := by decide +kernel
theorem dL_removeEdge_19 : decode cL_removeEdge 19 = .ok (.iconst 2, 1) := by decide +kernel
theorem dL_removeEdge_20 : decode cL_removeEdge 20 = .ok (.ireturn, 1) := by decide +kernel
theorem dL_removeEdge_21 : decode cL_removeEdge 21 = .ok (.iconst 0, 1) := by decide +kernel
theorem dL_removeEdge_22 : decode cL_removeEdge 22 = .ok (.ireturn, 1) := by decide +kernel
theorem dL_switchEdges_0 : decode cL_switchEdges 0 = .ok (.aload 5, 2) := by decide +kernel
theorem dL_switchEdges_2 : decode cL_switchEdges 2 = .ok (.iconst 0, 1) := by decide +kernel
theorem dL_switchEdges_3 : decode cL_switchEdges 3 = .ok (.aload_n 0, 1) := by decide +kernel
theorem dL_switchEdges_4 : decode cL_switchEdges 4 = .ok (.iload_n 1, 1) := by decide +kernel
theorem dL_switchEdges_5 : decode cL_switchEdges 5 = .ok (.iload_n 2, 1) := by decide +kernel
theorem dL_switchEdges_6 : decode cL_switchEdges 6 = .ok (.iload_n 3, 1) := by decide +kernel
theorem dL_switchEdges_7 : decode cL_switchEdges 7 = .ok (.iload 4, 2) := by decide +kernel
theorem dL_switchEdges_9 : decode cL_switchEdges 9 = .ok (.invokevirtual 82, 3) := by decide +kernel
theorem dL_switchEdges_12 : decode cL_switchEdges 12 = .ok (.i2l, 1) := by decide +kernel
theorem dL_switchEdges_13 : decode cL_switchEdges 13 = .ok (.lastore, 1) := by decide +kernel
theorem dL_switchEdges_14 : decode cL_switchEdges 14 = .ok (.goto 11, 3) := by decide +kernel
theorem dL_switchEdges_17 : decode cL_switchEdges 17 = .ok (.astore 6, 2) := by decide +kernel
theorem dL_switchEdges_19 : decode cL_switchEdges 19 = .ok (.iconst 1, 1) := by decide +kernel
theorem dL_switchEdges_20 : decode cL_switchEdges 20 = .ok (.ireturn, 1) := by decide +kernel
theorem dL_switchEdges_21 : decode cL_switchEdges 21 = .ok (.astore 6, 2) := by decide +kernel
theorem dL_switchEdges_23 : decode cL_switchEdges 23 = .ok (.iconst 2, 1) := by decide +kernel
theorem dL_switchEdges_24 : decode cL_switchEdges 24 = .ok (.ireturn, 1) := by decide +kernel
theorem dL_switchEdges_25 : decode cL_switchEdges 25 = .ok (.iconst 0, 1) := by decide +kernel
theorem dL_switchEdges_26 : decode cL_switchEdges 26 = .ok (.ireturn, 1) := by decide +kernel
theorem dL_realise_0 : decode cL_realise 0 = .ok (.aload_n 2, 1) := by decide +kernel
theorem dL_realise_1 : decode cL_realise 1 = .ok (.iconst 0, 1) := by decide +kernel
theorem dL_realise_2 : decode cL_realise 2 = .ok (.aload_n 0, 1) := by decide +kernel
theorem dL_realise_3 : decode cL_realise 3 = .ok (.iload_n 1, 1) := by decide +kernel
theorem dL_realise_4 : decode cL_realise 4 = .ok (.invokevirtual 85, 3) := by decide +kernel
theorem dL_realise_7 : decode cL_realise 7 = .ok (.i2l, 1) := by decide +kernel
theorem dL_realise_8 : decode cL_realise 8 = .ok (.lastore, 1) := by decide +kernel
theorem dL_realise_9 : decode cL_realise 9 = .ok (.goto 9, 3) := by decide +kernel
theorem dL_realise_12 : decode cL_realise 12 = .ok (.astore_n 3, 1) := by decide +kernel
theorem dL_realise_13 : decode cL_realise 13 = .ok (.iconst 1, 1) := by decide +kernel
theorem dL_realise_14 : decode cL_realise 14 = .ok (.ireturn, 1) := by decide +kernel
theorem dL_realise_15 : decode cL_realise 15 = .ok (.astore_n 3, 1) := by decide +kernel
theorem dL_realise_16 : decode cL_realise 16 = .ok (.iconst 2, 1) := by decide +kernel
theorem dL_realise_17 : decode cL_realise 17 = .ok (.ireturn, 1) := by decide +kernel
theorem dL_realise_18 : decode cL_realise 18 = .ok (.iconst 0, 1) := by decide +kernel
theorem dL_realise_19 : decode cL_realise 19 = .ok (.ireturn, 1) := by decide +kernel
theorem dL_follow_0 : decode cL_follow 0 = .ok (.aload_n 2, 1) := by decide +kernel
theorem dL_follow_1 : decode cL_follow 1 = .ok (.iconst 0, 1) := by decide +kernel
theorem dL_follow_2 : decode cL_follow 2 = .ok (.aload_n 0, 1) := by decide +kernel
theorem dL_follow_3 : decode cL_follow 3 = .ok (.iload_n 1, 1) := by decide +kernel
theorem dL_follow_4 : decode cL_follow 4 = .ok (.invokevirtual 88, 3) := by decide +kernel
theorem dL_follow_7 : decode cL_follow 7 = .ok (.i2l, 1) := by decide +kernel
theorem dL_follow_8 : decode cL_follow 8 = .ok (.lastore, 1) := by decide +kernel
theorem dL_follow_9 : decode cL_follow 9 = .ok (.goto 9, 3) := by decide +kernel
theorem dL_follow_12 : decode cL_follow 12 = .ok (.astore_n 3, 1) := by decide +kernel
theorem dL_follow_13 : decode cL_follow 13 = .ok (.iconst 1, 1) := by decide +kernel
theorem dL_follow_14 : decode cL_follow 14 = .ok (.ireturn, 1) := by decide +kernel
theorem dL_follow_15 : decode cL_follow 15 = .ok (.astore_n 3, 1) := by decide +kernel
theorem dL_follow_16 : decode cL_follow 16 = .ok (.iconst 2, 1) := by decide +kernel
theorem dL_follow_17 : decode cL_follow 17 = .ok (.ireturn, 1) := by decide +kernel
theorem dL_follow_18 : decode cL_follow 18 = .ok (.iconst 0, 1) := by decide +kernel
theorem dL_follow_19 : decode cL_follow 19 = .ok (.ireturn, 1) := by decide +kernel
theorem dL_setMode_0 : decode cL_setMode 0 = .ok (.aload_n 2, 1) := by decide +kernel
theorem dL_setMode_1 : decode cL_setMode 1 = .ok (.iconst 0, 1) := by decide +kernel
theorem dL_setMode_2 : decode cL_setMode 2 = .ok (.aload_n 0, 1) := by decide +kernel
theorem dL_setMode_3 : decode cL_setMode 3 = .ok (.iload_n 1, 1) := by decide +kernel
theorem dL_setMode_4 : decode cL_setMode 4 = .ok (.invokevirtual 91, 3) := by decide +kernel
theorem dL_setMode_7 : decode cL_setMode 7 = .ok (.i2l, 1) := by decide +kernel
theorem dL_setMode_8 : decode cL_setMode 8 = .ok (.lastore, 1) := by decide +kernel
theorem dL_setMode_9 : decode cL_setMode 9 = .ok (.goto 6, 3) := by decide +kernel
theorem dL_setMode_12 : decode cL_setMode 12 = .ok (.astore_n 3, 1) := by decide +kernel
theorem dL_setMode_13 : decode cL_setMode 13 = .ok (.iconst 1, 1) := by decide +kernel
theorem dL_setMode_14 : decode cL_setMode 14 = .ok (.ireturn, 1) := by decide +kernel
theorem dL_setMode_15 : decode cL_setMode 15 = .ok (.iconst 0, 1) := by decide +kernel
theorem dL_setMode_16 : decode cL_setMode 16 = .ok (.ireturn, 1) := by decide +kernel
theorem dL_written_0 : decode cL_written 0 = .ok (.aload_n 2, 1) := by decide +kernel
theorem dL_written_1 : decode cL_written 1 = .ok (.iconst 0, 1) := by decide +kernel
theorem dL_written_2 : decode cL_written 2 = .ok (.aload_n 0, 1) := by decide +kernel
theorem dL_written_3 : decode cL_written 3 = .ok (.iload_n 1, 1) := by decide +kernel
theorem dL_written_4 : decode cL_written 4 = .ok (.invokevirtual 94, 3) := by decide +kernel
theorem dL_written_7 : decode cL_written 7 = .ok (.i2l, 1) := by decide +kernel
theorem dL_written_8 : decode cL_written 8 = .ok (.lastore, 1) := by decide +kernel
theorem dL_written_9 : decode cL_written 9 = .ok (.goto 6, 3) := by decide +kernel
theorem dL_written_12 : decode cL_written 12 = .ok (.astore_n 3, 1) := by decide +kernel
theorem dL_written_13 : decode cL_written 13 = .ok (.iconst 1, 1) := by decide +kernel
theorem dL_written_14 : decode cL_written 14 = .ok (.ireturn, 1) := by decide +kernel
theorem dL_written_15 : decode cL_written 15 = .ok (.iconst 0, 1) := by decide +kernel
theorem dL_written_16 : decode cL_written 16 = .ok (.ireturn, 1) := by decide +kernel
theorem dL_law_0 : decode cL_law 0 = .ok (.new 8, 3) := by decide +kernel
