theorem dJ7_copyOf_9075b_24 : decode cJ7_copyOf_9075b 24 = .ok (.iload_n 1, 1) := by decide +kernel
theorem dJ7_copyOf_9075b_25 : decode cJ7_copyOf_9075b 25 = .ok (.invokestatic 304, 3) := by decide +kernel
theorem dJ7_copyOf_9075b_28 : decode cJ7_copyOf_9075b 28 = .ok (.invokestatic 150, 3) := by decide +kernel
theorem dJ7_copyOf_9075b_31 : decode cJ7_copyOf_9075b 31 = .ok (.aload_n 2, 1) := by decide +kernel
theorem dJ7_copyOf_9075b_32 : decode cJ7_copyOf_9075b 32 = .ok (.areturn, 1) := by decide +kernel
theorem dJ7_checkLength_df160_0 : decode cJ7_checkLength_df160 0 = .ok (.iload_n 1, 1) := by decide +kernel
theorem dJ7_checkLength_df160_1 : decode cJ7_checkLength_df160 1 = .ok (.iload_n 0, 1) := by decide +kernel
theorem dJ7_checkLength_df160_2 : decode cJ7_checkLength_df160 2 = .ok (.if_icmp .ge 35, 3) := by decide +kernel
theorem dJ7_checkLength_df160_5 : decode cJ7_checkLength_df160 5 = .ok (.new 43, 3) := by decide +kernel
theorem dJ7_checkLength_df160_8 : decode cJ7_checkLength_df160 8 = .ok (.dup, 1) := by decide +kernel
theorem dJ7_checkLength_df160_9 : decode cJ7_checkLength_df160 9 = .ok (.new 45, 3) := by decide +kernel
theorem dJ7_checkLength_df160_12 : decode cJ7_checkLength_df160 12 = .ok (.dup, 1) := by decide +kernel
theorem dJ7_checkLength_df160_13 : decode cJ7_checkLength_df160 13 = .ok (.invokespecial 47, 3) := by decide +kernel
theorem dJ7_checkLength_df160_16 : decode cJ7_checkLength_df160 16 = .ok (.iload_n 0, 1) := by decide +kernel
theorem dJ7_checkLength_df160_17 : decode cJ7_checkLength_df160 17 = .ok (.invokevirtual 54, 3) := by decide +kernel
theorem dJ7_checkLength_df160_20 : decode cJ7_checkLength_df160 20 = .ok (.ldc_w 337, 3) := by decide +kernel
theorem dJ7_checkLength_df160_23 : decode cJ7_checkLength_df160 23 = .ok (.invokevirtual 50, 3) := by decide +kernel
theorem dJ7_checkLength_df160_26 : decode cJ7_checkLength_df160 26 = .ok (.iload_n 1, 1) := by decide +kernel
theorem dJ7_checkLength_df160_27 : decode cJ7_checkLength_df160 27 = .ok (.invokevirtual 54, 3) := by decide +kernel
theorem dJ7_checkLength_df160_30 : decode cJ7_checkLength_df160 30 = .ok (.invokevirtual 61, 3) := by decide +kernel
theorem dJ7_checkLength_df160_33 : decode cJ7_checkLength_df160 33 = .ok (.invokespecial 65, 3) := by decide +kernel
theorem dJ7_checkLength_df160_36 : decode cJ7_checkLength_df160 36 = .ok (.athrow, 1) := by decide +kernel
theorem dJ7_checkLength_df160_37 : decode cJ7_checkLength_df160 37 = .ok (.return_, 1) := by decide +kernel
theorem dJ7_copyOfRange_39247_0 : decode cJ7_copyOfRange_39247 0 = .ok (.iload_n 1, 1) := by decide +kernel
theorem dJ7_copyOfRange_39247_1 : decode cJ7_copyOfRange_39247 1 = .ok (.ifCond .ne 9, 3) := by decide +kernel
theorem dJ7_copyOfRange_39247_4 : decode cJ7_copyOfRange_39247 4 = .ok (.iload_n 2, 1) := by decide +kernel
theorem dJ7_copyOfRange_39247_5 : decode cJ7_copyOfRange_39247 5 = .ok (.aload_n 0, 1) := by decide +kernel
theorem dJ7_copyOfRange_39247_6 : decode cJ7_copyOfRange_39247 6 = .ok (.arraylength, 1) := by decide +kernel
theorem dJ7_copyOfRange_39247_7 : decode cJ7_copyOfRange_39247 7 = .ok (.if_icmp .eq 10, 3) := by decide +kernel
theorem dJ7_copyOfRange_39247_10 : decode cJ7_copyOfRange_39247 10 = .ok (.aload_n 0, 1) := by decide +kernel
theorem dJ7_copyOfRange_39247_11 : decode cJ7_copyOfRange_39247 11 = .ok (.iload_n 1, 1) := by decide +kernel
theorem dJ7_copyOfRange_39247_12 : decode cJ7_copyOfRange_39247 12 = .ok (.iload_n 2, 1) := by decide +kernel
theorem dJ7_copyOfRange_39247_13 : decode cJ7_copyOfRange_39247 13 = .ok (.invokestatic 339, 3) := by decide +kernel
theorem dJ7_copyOfRange_39247_16 : decode cJ7_copyOfRange_39247 16 = .ok (.areturn, 1) := by decide +kernel
theorem dJ7_copyOfRange_39247_17 : decode cJ7_copyOfRange_39247 17 = .ok (.aload_n 0, 1) := by decide +kernel
theorem dJ7_copyOfRange_39247_18 : decode cJ7_copyOfRange_39247 18 = .ok (.invokevirtual 310, 3) := by decide +kernel
theorem dJ7_copyOfRange_39247_21 : decode cJ7_copyOfRange_39247 21 = .ok (.checkcast 311, 3) := by decide +kernel
theorem dJ7_copyOfRange_39247_24 : decode cJ7_copyOfRange_39247 24 = .ok (.areturn, 1) := by decide +kernel
theorem dJ7_copyOfRangeByte_39247_0 : decode cJ7_copyOfRangeByte_39247 0 = .ok (.iload_n 1, 1) := by decide +kernel
theorem dJ7_copyOfRangeByte_39247_1 : decode cJ7_copyOfRangeByte_39247 1 = .ok (.iload_n 2, 1) := by decide +kernel
theorem dJ7_copyOfRangeByte_39247_2 : decode cJ7_copyOfRangeByte_39247 2 = .ok (.invokestatic 343, 3) := by decide +kernel
theorem dJ7_copyOfRangeByte_39247_5 : decode cJ7_copyOfRangeByte_39247 5 = .ok (.iload_n 2, 1) := by decide +kernel
theorem dJ7_copyOfRangeByte_39247_6 : decode cJ7_copyOfRangeByte_39247 6 = .ok (.iload_n 1, 1) := by decide +kernel
theorem dJ7_copyOfRangeByte_39247_7 : decode cJ7_copyOfRangeByte_39247 7 = .ok (.isub, 1) := by decide +kernel
theorem dJ7_copyOfRangeByte_39247_8 : decode cJ7_copyOfRangeByte_39247 8 = .ok (.istore_n 3, 1) := by decide +kernel
theorem dJ7_copyOfRangeByte_39247_9 : decode cJ7_copyOfRangeByte_39247 9 = .ok (.iload_n 3, 1) := by decide +kernel
theorem dJ7_copyOfRangeByte_39247_10 : decode cJ7_copyOfRangeByte_39247 10 = .ok (.newarray .byte, 2) := by decide +kernel
theorem dJ7_copyOfRangeByte_39247_12 : decode cJ7_copyOfRangeByte_39247 12 = .ok (.astore 4, 2) := by decide +kernel
theorem dJ7_copyOfRangeByte_39247_14 : decode cJ7_copyOfRangeByte_39247 14 = .ok (.aload_n 0, 1) := by decide +kernel
theorem dJ7_copyOfRangeByte_39247_15 : decode cJ7_copyOfRangeByte_39247 15 = .ok (.iload_n 1, 1) := by decide +kernel
theorem dJ7_copyOfRangeByte_39247_16 : decode cJ7_copyOfRangeByte_39247 16 = .ok (.aload 4, 2) := by decide +kernel
theorem dJ7_copyOfRangeByte_39247_18 : decode cJ7_copyOfRangeByte_39247 18 = .ok (.iconst 0, 1) := by decide +kernel
theorem dJ7_copyOfRangeByte_39247_19 : decode cJ7_copyOfRangeByte_39247 19 = .ok (.aload_n 0, 1) := by decide +kernel
theorem dJ7_copyOfRangeByte_39247_20 : decode cJ7_copyOfRangeByte_39247 20 = .ok (.arraylength, 1) := by decide +kernel
theorem dJ7_copyOfRangeByte_39247_21 : decode cJ7_copyOfRangeByte_39247 21 = .ok (.iload_n 1, 1) := by decide +kernel
theorem dJ7_copyOfRangeByte_39247_22 : decode cJ7_copyOfRangeByte_39247 22 = .ok (.isub, 1) := by decide +kernel
theorem dJ7_copyOfRangeByte_39247_23 : decode cJ7_copyOfRangeByte_39247 23 = .ok (.iload_n 3, 1) := by decide +kernel
theorem dJ7_copyOfRangeByte_39247_24 : decode cJ7_copyOfRangeByte_39247 24 = .ok (.invokestatic 304, 3) := by decide +kernel
theorem dJ7_copyOfRangeByte_39247_27 : decode cJ7_copyOfRangeByte_39247 27 = .ok (.invokestatic 150, 3) := by decide +kernel
theorem dJ7_copyOfRangeByte_39247_30 : decode cJ7_copyOfRangeByte_39247 30 = .ok (.aload 4, 2) := by decide +kernel
theorem dJ7_copyOfRangeByte_39247_32 : decode cJ7_copyOfRangeByte_39247 32 = .ok (.areturn, 1) := by decide +kernel
theorem dJ8_newLength_cabcc_0 : decode cJ8_newLength_cabcc 0 = .ok (.iload_n 0, 1) := by decide +kernel
theorem dJ8_newLength_cabcc_1 : decode cJ8_newLength_cabcc 1 = .ok (.iload_n 1, 1) := by decide +kernel
theorem dJ8_newLength_cabcc_2 : decode cJ8_newLength_cabcc 2 = .ok (.iload_n 2, 1) := by decide +kernel
theorem dJ8_newLength_cabcc_3 : decode cJ8_newLength_cabcc 3 = .ok (.invokestatic 194, 3) := by decide +kernel
theorem dJ8_newLength_cabcc_6 : decode cJ8_newLength_cabcc 6 = .ok (.iadd, 1) := by decide +kernel
theorem dJ8_newLength_cabcc_7 : decode cJ8_newLength_cabcc 7 = .ok (.istore_n 3, 1) := by decide +kernel
theorem dJ8_newLength_cabcc_8 : decode cJ8_newLength_cabcc 8 = .ok (.iconst 0, 1) := by decide +kernel
theorem dJ8_newLength_cabcc_9 : decode cJ8_newLength_cabcc 9 = .ok (.iload_n 3, 1) := by decide +kernel
theorem dJ8_newLength_cabcc_10 : decode cJ8_newLength_cabcc 10 = .ok (.if_icmp .ge 11, 3) := by decide +kernel
theorem dJ8_newLength_cabcc_13 : decode cJ8_newLength_cabcc 13 = .ok (.iload_n 3, 1) := by decide +kernel
theorem dJ8_newLength_cabcc_14 : decode cJ8_newLength_cabcc 14 = .ok (.ldc 200, 2) := by decide +kernel
theorem dJ8_newLength_cabcc_16 : decode cJ8_newLength_cabcc 16 = .ok (.if_icmp .gt 5, 3) := by decide +kernel
theorem dJ8_newLength_cabcc_19 : decode cJ8_newLength_cabcc 19 = .ok (.iload_n 3, 1) := by decide +kernel
theorem dJ8_newLength_cabcc_20 : decode cJ8_newLength_cabcc 20 = .ok (.ireturn, 1) := by decide +kernel
theorem dJ8_newLength_cabcc_21 : decode cJ8_newLength_cabcc 21 = .ok (.iload_n 0, 1) := by decide +kernel
theorem dJ8_newLength_cabcc_22 : decode cJ8_newLength_cabcc 22 = .ok (.iload_n 1, 1) := by decide +kernel
theorem dJ8_newLength_cabcc_23 : decode cJ8_newLength_cabcc 23 = .ok (.invokestatic 201, 3) := by decide +kernel
theorem dJ8_newLength_cabcc_26 : decode cJ8_newLength_cabcc 26 = .ok (.ireturn, 1) := by decide +kernel
theorem dJ8_hugeLength_7cf53_0 : decode cJ8_hugeLength_7cf53 0 = .ok (.iload_n 0, 1) := by decide +kernel
theorem dJ8_hugeLength_7cf53_1 : decode cJ8_hugeLength_7cf53 1 = .ok (.iload_n 1, 1) := by decide +kernel
theorem dJ8_hugeLength_7cf53_2 : decode cJ8_hugeLength_7cf53 2 = .ok (.iadd, 1) := by decide +kernel
theorem dJ8_hugeLength_7cf53_3 : decode cJ8_hugeLength_7cf53 3 = .ok (.istore_n 2, 1) := by decide +kernel
theorem dJ8_hugeLength_7cf53_4 : decode cJ8_hugeLength_7cf53 4 = .ok (.iload_n 2, 1) := by decide +kernel
theorem dJ8_hugeLength_7cf53_5 : decode cJ8_hugeLength_7cf53 5 = .ok (.ifCond .ge 44, 3) := by decide +kernel
theorem dJ8_hugeLength_7cf53_8 : decode cJ8_hugeLength_7cf53 8 = .ok (.new 204, 3) := by decide +kernel
theorem dJ8_hugeLength_7cf53_11 : decode cJ8_hugeLength_7cf53 11 = .ok (.dup, 1) := by decide +kernel
theorem dJ8_hugeLength_7cf53_12 : decode cJ8_hugeLength_7cf53 12 = .ok (.new 89, 3) := by decide +kernel
theorem dJ8_hugeLength_7cf53_15 : decode cJ8_hugeLength_7cf53 15 = .ok (.dup, 1) := by decide +kernel
theorem dJ8_hugeLength_7cf53_16 : decode cJ8_hugeLength_7cf53 16 = .ok (.invokespecial 91, 3) := by decide +kernel
theorem dJ8_hugeLength_7cf53_19 : decode cJ8_hugeLength_7cf53 19 = .ok (.ldc 206, 2) := by decide +kernel
theorem dJ8_hugeLength_7cf53_21 : decode cJ8_hugeLength_7cf53 21 = .ok (.invokevirtual 94, 3) := by decide +kernel
theorem dJ8_hugeLength_7cf53_24 : decode cJ8_hugeLength_7cf53 24 = .ok (.iload_n 0, 1) := by decide +kernel
theorem dJ8_hugeLength_7cf53_25 : decode cJ8_hugeLength_7cf53 25 = .ok (.invokevirtual 98, 3) := by decide +kernel
theorem dJ8_hugeLength_7cf53_28 : decode cJ8_hugeLength_7cf53 28 = .ok (.ldc 208, 2) := by decide +kernel
theorem dJ8_hugeLength_7cf53_30 : decode cJ8_hugeLength_7cf53 30 = .ok (.invokevirtual 94, 3) := by decide +kernel
theorem dJ8_hugeLength_7cf53_33 : decode cJ8_hugeLength_7cf53 33 = .ok (.iload_n 1, 1) := by decide +kernel
theorem dJ8_hugeLength_7cf53_34 : decode cJ8_hugeLength_7cf53 34 = .ok (.invokevirtual 98, 3) := by decide +kernel
theorem dJ8_hugeLength_7cf53_37 : decode cJ8_hugeLength_7cf53 37 = .ok (.ldc 210, 2) := by decide +kernel
theorem dJ8_hugeLength_7cf53_39 : decode cJ8_hugeLength_7cf53 39 = .ok (.invokevirtual 94, 3) := by decide +kernel
theorem dJ8_hugeLength_7cf53_42 : decode cJ8_hugeLength_7cf53 42 = .ok (.invokevirtual 101, 3) := by decide +kernel
theorem dJ8_hugeLength_7cf53_45 : decode cJ8_hugeLength_7cf53 45 = .ok (.invokespecial 212, 3) := by decide +kernel
theorem dJ8_hugeLength_7cf53_48 : decode cJ8_hugeLength_7cf53 48 = .ok (.athrow, 1) := by decide +kernel
theorem dJ8_hugeLength_7cf53_49 : decode cJ8_hugeLength_7cf53 49 = .ok (.iload_n 2, 1) := by decide +kernel
theorem dJ8_hugeLength_7cf53_50 : decode cJ8_hugeLength_7cf53 50 = .ok (.ldc 200, 2) := by decide +kernel
theorem dJ8_hugeLength_7cf53_52 : decode cJ8_hugeLength_7cf53 52 = .ok (.if_icmp .gt 6, 3) := by decide +kernel
theorem dJ8_hugeLength_7cf53_55 : decode cJ8_hugeLength_7cf53 55 = .ok (.ldc 200, 2) := by decide +kernel
theorem dJ8_hugeLength_7cf53_57 : decode cJ8_hugeLength_7cf53 57 = .ok (.ireturn, 1) := by decide +kernel
theorem dJ8_hugeLength_7cf53_58 : decode cJ8_hugeLength_7cf53 58 = .ok (.iload_n 2, 1) := by decide +kernel
theorem dJ8_hugeLength_7cf53_59 : decode cJ8_hugeLength_7cf53 59 = .ok (.ireturn, 1) := by decide +kernel
theorem dJ3_checkIndex_8e157_0 : decode cJ3_checkIndex_8e157 0 = .ok (.iload_n 0, 1) := by decide +kernel
theorem dJ3_checkIndex_8e157_1 : decode cJ3_checkIndex_8e157 1 = .ok (.ifCond .lt 8, 3) := by decide +kernel
theorem dJ3_checkIndex_8e157_4 : decode cJ3_checkIndex_8e157 4 = .ok (.iload_n 0, 1) := by decide +kernel
theorem dJ3_checkIndex_8e157_5 : decode cJ3_checkIndex_8e157 5 = .ok (.iload_n 1, 1) := by decide +kernel
theorem dJ3_checkIndex_8e157_6 : decode cJ3_checkIndex_8e157 6 = .ok (.if_icmp .lt 10, 3) := by decide +kernel
theorem dJ3_checkIndex_8e157_9 : decode cJ3_checkIndex_8e157 9 = .ok (.aload_n 2, 1) := by decide +kernel
theorem dJ3_checkIndex_8e157_10 : decode cJ3_checkIndex_8e157 10 = .ok (.iload_n 0, 1) := by decide +kernel
theorem dJ3_checkIndex_8e157_11 : decode cJ3_checkIndex_8e157 11 = .ok (.iload_n 1, 1) := by decide +kernel
theorem dJ3_checkIndex_8e157_12 : decode cJ3_checkIndex_8e157 12 = .ok (.invokestatic 95, 3) := by decide +kernel
theorem dJ3_checkIndex_8e157_15 : decode cJ3_checkIndex_8e157 15 = .ok (.athrow, 1) := by decide +kernel
theorem dJ3_checkIndex_8e157_16 : decode cJ3_checkIndex_8e157 16 = .ok (.iload_n 0, 1) := by decide +kernel
theorem dJ3_checkIndex_8e157_17 : decode cJ3_checkIndex_8e157 17 = .ok (.ireturn, 1) := by decide +kernel
theorem dJ3_checkFromToIndex_8c36e_0 : decode cJ3_checkFromToIndex_8c36e 0 = .ok (.iload_n 0, 1) := by decide +kernel
theorem dJ3_checkFromToIndex_8c36e_1 : decode cJ3_checkFromToIndex_8c36e 1 = .ok (.ifCond .lt 13, 3) := by decide +kernel
theorem dJ3_checkFromToIndex_8c36e_4 : decode cJ3_checkFromToIndex_8c36e 4 = .ok (.iload_n 0, 1) := by decide +kernel
theorem dJ3_checkFromToIndex_8c36e_5 : decode cJ3_checkFromToIndex_8c36e 5 = .ok (.iload_n 1, 1) := by decide +kernel
theorem dJ3_checkFromToIndex_8c36e_6 : decode cJ3_checkFromToIndex_8c36e 6 = .ok (.if_icmp .gt 8, 3) := by decide +kernel
theorem dJ3_checkFromToIndex_8c36e_9 : decode cJ3_checkFromToIndex_8c36e 9 = .ok (.iload_n 1, 1) := by decide +kernel
theorem dJ3_checkFromToIndex_8c36e_10 : decode cJ3_checkFromToIndex_8c36e 10 = .ok (.iload_n 2, 1) := by decide +kernel
theorem dJ3_checkFromToIndex_8c36e_11 : decode cJ3_checkFromToIndex_8c36e 11 = .ok (.if_icmp .le 11, 3) := by decide +kernel
theorem dJ3_checkFromToIndex_8c36e_14 : decode cJ3_checkFromToIndex_8c36e 14 = .ok (.aload_n 3, 1) := by decide +kernel
theorem dJ3_checkFromToIndex_8c36e_15 : decode cJ3_checkFromToIndex_8c36e 15 = .ok (.iload_n 0, 1) := by decide +kernel
theorem dJ3_checkFromToIndex_8c36e_16 : decode cJ3_checkFromToIndex_8c36e 16 = .ok (.iload_n 1, 1) := by decide +kernel
theorem dJ3_checkFromToIndex_8c36e_17 : decode cJ3_checkFromToIndex_8c36e 17 = .ok (.iload_n 2, 1) := by decide +kernel
theorem dJ3_checkFromToIndex_8c36e_18 : decode cJ3_checkFromToIndex_8c36e 18 = .ok (.invokestatic 99, 3) := by decide +kernel
theorem dJ3_checkFromToIndex_8c36e_21 : decode cJ3_checkFromToIndex_8c36e 21 = .ok (.athrow, 1) := by decide +kernel
theorem dJ3_checkFromToIndex_8c36e_22 : decode cJ3_checkFromToIndex_8c36e 22 = .ok (.iload_n 0, 1) := by decide +kernel
theorem dJ3_checkFromToIndex_8c36e_23 : decode cJ3_checkFromToIndex_8c36e 23 = .ok (.ireturn, 1) := by decide +kernel
theorem dJ3_checkFromIndexSize_8c36e_0 : decode cJ3_checkFromIndexSize_8c36e 0 = .ok (.iload_n 2, 1) := by decide +kernel
theorem dJ3_checkFromIndexSize_8c36e_1 : decode cJ3_checkFromIndexSize_8c36e 1 = .ok (.iload_n 0, 1) := by decide +kernel
theorem dJ3_checkFromIndexSize_8c36e_2 : decode cJ3_checkFromIndexSize_8c36e 2 = .ok (.ior, 1) := by decide +kernel
theorem dJ3_checkFromIndexSize_8c36e_3 : decode cJ3_checkFromIndexSize_8c36e 3 = .ok (.iload_n 1, 1) := by decide +kernel
theorem dJ3_checkFromIndexSize_8c36e_4 : decode cJ3_checkFromIndexSize_8c36e 4 = .ok (.ior, 1) := by decide +kernel
theorem dJ3_checkFromIndexSize_8c36e_5 : decode cJ3_checkFromIndexSize_8c36e 5 = .ok (.ifCond .lt 10, 3) := by decide +kernel
theorem dJ3_checkFromIndexSize_8c36e_8 : decode cJ3_checkFromIndexSize_8c36e 8 = .ok (.iload_n 1, 1) := by decide +kernel
theorem dJ3_checkFromIndexSize_8c36e_9 : decode cJ3_checkFromIndexSize_8c36e 9 = .ok (.iload_n 2, 1) := by decide +kernel
theorem dJ3_checkFromIndexSize_8c36e_10 : decode cJ3_checkFromIndexSize_8c36e 10 = .ok (.iload_n 0, 1) := by decide +kernel
theorem dJ3_checkFromIndexSize_8c36e_11 : decode cJ3_checkFromIndexSize_8c36e 11 = .ok (.isub, 1) := by decide +kernel
theorem dJ3_checkFromIndexSize_8c36e_12 : decode cJ3_checkFromIndexSize_8c36e 12 = .ok (.if_icmp .le 11, 3) := by decide +kernel
theorem dJ3_checkFromIndexSize_8c36e_15 : decode cJ3_checkFromIndexSize_8c36e 15 = .ok (.aload_n 3, 1) := by decide +kernel
theorem dJ3_checkFromIndexSize_8c36e_16 : decode cJ3_checkFromIndexSize_8c36e 16 = .ok (.iload_n 0, 1) := by decide +kernel
theorem dJ3_checkFromIndexSize_8c36e_17 : decode cJ3_checkFromIndexSize_8c36e 17 = .ok (.iload_n 1, 1) := by decide +kernel
theorem dJ3_checkFromIndexSize_8c36e_18 : decode cJ3_checkFromIndexSize_8c36e 18 = .ok (.iload_n 2, 1) := by decide +kernel
theorem dJ3_checkFromIndexSize_8c36e_19 : decode cJ3_checkFromIndexSize_8c36e 19 = .ok (.invokestatic 103, 3) := by decide +kernel
theorem dJ3_checkFromIndexSize_8c36e_22 : decode cJ3_checkFromIndexSize_8c36e 22 = .ok (.athrow, 1) := by decide +kernel
theorem dJ3_checkFromIndexSize_8c36e_23 : decode cJ3_checkFromIndexSize_8c36e 23 = .ok (.iload_n 0, 1) := by decide +kernel
theorem dJ3_checkFromIndexSize_8c36e_24 : decode cJ3_checkFromIndexSize_8c36e 24 = .ok (.ireturn, 1) := by decide +kernel
theorem dL_init_0 : decode cL_init 0 = .ok (.aload_n 0, 1) := by decide +kernel
theorem dL_init_1 : decode cL_init 1 = .ok (.invokespecial 1, 3) := by decide +kernel
theorem dL_init_4 : decode cL_init 4 = .ok (.aload_n 0, 1) := by decide +kernel
theorem dL_init_5 : decode cL_init 5 = .ok (.iconst 0, 1) := by decide +kernel
theorem dL_init_6 : decode cL_init 6 = .ok (.newarray .int, 2) := by decide +kernel
theorem dL_init_8 : decode cL_init 8 = .ok (.putfield 7, 3) := by decide +kernel
theorem dL_init_11 : decode cL_init 11 = .ok (.aload_n 0, 1) := by decide +kernel
theorem dL_init_12 : decode cL_init 12 = .ok (.bipush 6, 2) := by decide +kernel
theorem dL_init_14 : decode cL_init 14 = .ok (.bipush 6, 2) := by decide +kernel
theorem dL_init_16 : decode cL_init 16 = .ok (.multianewarray 13 2, 4) := by decide +kernel
theorem dL_init_20 : decode cL_init 20 = .ok (.putfield 15, 3) := by decide +kernel
theorem dL_init_23 : decode cL_init 23 = .ok (.return_, 1) := by decide +kernel
theorem dL_among_0 : decode cL_among 0 = .ok (.iload_n 0, 1) := by decide +kernel
theorem dL_among_1 : decode cL_among 1 = .ok (.iload_n 1, 1) := by decide +kernel
theorem dL_among_2 : decode cL_among 2 = .ok (.irem, 1) := by decide +kernel
theorem dL_among_3 : decode cL_among 3 = .ok (.istore_n 2, 1) := by decide +kernel
theorem dL_among_4 : decode cL_among 4 = .ok (.iload_n 2, 1) := by decide +kernel
theorem dL_among_5 : decode cL_among 5 = .ok (.ifCond .ge 9, 3) := by decide +kernel
theorem dL_among_8 : decode cL_among 8 = .ok (.iload_n 2, 1) := by decide +kernel
theorem dL_among_9 : decode cL_among 9 = .ok (.iload_n 1, 1) := by decide +kernel
theorem dL_among_10 : decode cL_among 10 = .ok (.iadd, 1) := by decide +kernel
theorem dL_among_11 : decode cL_among 11 = .ok (.goto 4, 3) := by decide +kernel
theorem dL_among_14 : decode cL_among 14 = .ok (.iload_n 2, 1) := by decide +kernel
theorem dL_among_15 : decode cL_among 15 = .ok (.ireturn, 1) := by decide +kernel
theorem dL_cell_0 : decode cL_cell 0 = .ok (.iload_n 1, 1) := by decide +kernel
theorem dL_cell_1 : decode cL_cell 1 = .ok (.aload_n 0, 1) := by decide +kernel
theorem dL_cell_2 : decode cL_cell 2 = .ok (.arraylength, 1) := by decide +kernel
theorem dL_cell_3 : decode cL_cell 3 = .ok (.if_icmp .ge 9, 3) := by decide +kernel
theorem dL_cell_6 : decode cL_cell 6 = .ok (.aload_n 0, 1) := by decide +kernel
theorem dL_cell_7 : decode cL_cell 7 = .ok (.iload_n 1, 1) := by decide +kernel
theorem dL_cell_8 : decode cL_cell 8 = .ok (.iaload, 1) := by decide +kernel
theorem dL_cell_9 : decode cL_cell 9 = .ok (.goto 14, 3) := by decide +kernel
theorem dL_cell_12 : decode cL_cell 12 = .ok (.sipush 7919, 3) := by decide +kernel
theorem dL_cell_15 : decode cL_cell 15 = .ok (.iload_n 1, 1) := by decide +kernel
theorem dL_cell_16 : decode cL_cell 16 = .ok (.sipush 1000, 3) := by decide +kernel
theorem dL_cell_19 : decode cL_cell 19 = .ok (.irem, 1) := by decide +kernel
theorem dL_cell_20 : decode cL_cell 20 = .ok (.imul, 1) := by decide +kernel
theorem dL_cell_21 : decode cL_cell 21 = .ok (.iconst 5, 1) := by decide +kernel
theorem dL_cell_22 : decode cL_cell 22 = .ok (.iadd, 1) := by decide +kernel
theorem dL_cell_23 : decode cL_cell 23 = .ok (.ireturn, 1) := by decide +kernel
theorem dL_four_0 : decode cL_four 0 = .ok (.iconst 0, 1) := by decide +kernel
theorem dL_four_1 : decode cL_four 1 = .ok (.istore_n 2, 1) := by decide +kernel
theorem dL_four_2 : decode cL_four 2 = .ok (.iload_n 1, 1) := by decide +kernel
theorem dL_four_3 : decode cL_four 3 = .ok (.istore_n 3, 1) := by decide +kernel
theorem dL_four_4 : decode cL_four 4 = .ok (.iload_n 3, 1) := by decide +kernel
theorem dL_four_5 : decode cL_four 5 = .ok (.iload_n 1, 1) := by decide +kernel
theorem dL_four_6 : decode cL_four 6 = .ok (.iconst 4, 1) := by decide +kernel
theorem dL_four_7 : decode cL_four 7 = .ok (.iadd, 1) := by decide +kernel
theorem dL_four_8 : decode cL_four 8 = .ok (.if_icmp .ge 33, 3) := by decide +kernel
theorem dL_four_11 : decode cL_four 11 = .ok (.iload_n 2, 1) := by decide +kernel
theorem dL_four_12 : decode cL_four 12 = .ok (.bipush 8, 2) := by decide +kernel
theorem dL_four_14 : decode cL_four 14 = .ok (.ishl, 1) := by decide +kernel
theorem dL_four_15 : decode cL_four 15 = .ok (.iload_n 3, 1) := by decide +kernel
theorem dL_four_16 : decode cL_four 16 = .ok (.aload_n 0, 1) := by decide +kernel
theorem dL_four_17 : decode cL_four 17 = .ok (.invokevirtual 18, 3) := by decide +kernel
theorem dL_four_20 : decode cL_four 20 = .ok (.if_icmp .ge 11, 3) := by decide +kernel
theorem dL_four_23 : decode cL_four 23 = .ok (.aload_n 0, 1) := by decide +kernel
theorem dL_four_24 : decode cL_four 24 = .ok (.iload_n 3, 1) := by decide +kernel
theorem dL_four_25 : decode cL_four 25 = .ok (.invokevirtual 24, 3) := by decide +kernel
theorem dL_four_28 : decode cL_four 28 = .ok (.goto 5, 3) := by decide +kernel
theorem dL_four_31 : decode cL_four 31 = .ok (.bipush 32, 2) := by decide +kernel
theorem dL_four_33 : decode cL_four 33 = .ok (.ior, 1) := by decide +kernel
theorem dL_four_34 : decode cL_four 34 = .ok (.istore_n 2, 1) := by decide +kernel
theorem dL_four_35 : decode cL_four 35 = .ok (.iinc 3 1, 3) := by decide +kernel
theorem dL_four_38 : decode cL_four 38 = .ok (.goto (-34), 3) := by decide +kernel
theorem dL_four_41 : decode cL_four 41 = .ok (.iload_n 2, 1) := by decide +kernel
theorem dL_four_42 : decode cL_four 42 = .ok (.ireturn, 1) := by decide +kernel
theorem dL_load_0 : decode cL_load 0 = .ok (.iconst 0, 1) := by decide +kernel
theorem dL_load_1 : decode cL_load 1 = .ok (.istore_n 2, 1) := by decide +kernel
theorem dL_load_2 : decode cL_load 2 = .ok (.iload_n 2, 1) := by decide +kernel
theorem dL_load_3 : decode cL_load 3 = .ok (.aload_n 1, 1) := by decide +kernel
theorem dL_load_4 : decode cL_load 4 = .ok (.invokevirtual 18, 3) := by decide +kernel
theorem dL_load_7 : decode cL_load 7 = .ok (.if_icmp .ge 50, 3) := by decide +kernel
theorem dL_load_10 : decode cL_load 10 = .ok (.aload_n 0, 1) := by decide +kernel
theorem dL_load_11 : decode cL_load 11 = .ok (.aload_n 1, 1) := by decide +kernel
theorem dL_load_12 : decode cL_load 12 = .ok (.iload_n 2, 1) := by decide +kernel
theorem dL_load_13 : decode cL_load 13 = .ok (.invokestatic 28, 3) := by decide +kernel
theorem dL_load_16 : decode cL_load 16 = .ok (.aload_n 1, 1) := by decide +kernel
theorem dL_load_17 : decode cL_load 17 = .ok (.iload_n 2, 1) := by decide +kernel
theorem dL_load_18 : decode cL_load 18 = .ok (.iconst 4, 1) := by decide +kernel
theorem dL_load_19 : decode cL_load 19 = .ok (.iadd, 1) := by decide +kernel
theorem dL_load_20 : decode cL_load 20 = .ok (.invokestatic 28, 3) := by decide +kernel
theorem dL_load_23 : decode cL_load 23 = .ok (.aload_n 1, 1) := by decide +kernel
theorem dL_load_24 : decode cL_load 24 = .ok (.iload_n 2, 1) := by decide +kernel
theorem dL_load_25 : decode cL_load 25 = .ok (.bipush 8, 2) := by decide +kernel
theorem dL_load_27 : decode cL_load 27 = .ok (.iadd, 1) := by decide +kernel
theorem dL_load_28 : decode cL_load 28 = .ok (.invokestatic 28, 3) := by decide +kernel
theorem dL_load_31 : decode cL_load 31 = .ok (.aload_n 1, 1) := by decide +kernel
theorem dL_load_32 : decode cL_load 32 = .ok (.iload_n 2, 1) := by decide +kernel
theorem dL_load_33 : decode cL_load 33 = .ok (.bipush 12, 2) := by decide +kernel
theorem dL_load_35 : decode cL_load 35 = .ok (.iadd, 1) := by decide +kernel
theorem dL_load_36 : decode cL_load 36 = .ok (.invokestatic 28, 3) := by decide +kernel
theorem dL_load_39 : decode cL_load 39 = .ok (.aload_n 1, 1) := by decide +kernel
theorem dL_load_40 : decode cL_load 40 = .ok (.iload_n 2, 1) := by decide +kernel
theorem dL_load_41 : decode cL_load 41 = .ok (.bipush 16, 2) := by decide +kernel
theorem dL_load_43 : decode cL_load 43 = .ok (.iadd, 1) := by decide +kernel
theorem dL_load_44 : decode cL_load 44 = .ok (.invokestatic 28, 3) := by decide +kernel
theorem dL_load_47 : decode cL_load 47 = .ok (.invokevirtual 32, 3) := by decide +kernel
theorem dL_load_50 : decode cL_load 50 = .ok (.pop, 1) := by decide +kernel
theorem dL_load_51 : decode cL_load 51 = .ok (.iinc 2 20, 3) := by decide +kernel
theorem dL_load_54 : decode cL_load 54 = .ok (.goto (-52), 3) := by decide +kernel
theorem dL_load_57 : decode cL_load 57 = .ok (.aload_n 0, 1) := by decide +kernel
theorem dL_load_58 : decode cL_load 58 = .ok (.aload_n 1, 1) := by decide +kernel
theorem dL_load_59 : decode cL_load 59 = .ok (.invokevirtual 18, 3) := by decide +kernel
theorem dL_load_62 : decode cL_load 62 = .ok (.invokevirtual 38, 3) := by decide +kernel
theorem dL_load_65 : decode cL_load 65 = .ok (.ireturn, 1) := by decide +kernel
theorem dL_chosen_0 : decode cL_chosen 0 = .ok (.aload_n 0, 1) := by decide +kernel
theorem dL_chosen_1 : decode cL_chosen 1 = .ok (.getfield 7, 3) := by decide +kernel
theorem dL_chosen_4 : decode cL_chosen 4 = .ok (.aload_n 0, 1) := by decide +kernel
theorem dL_chosen_5 : decode cL_chosen 5 = .ok (.getfield 42, 3) := by decide +kernel
theorem dL_chosen_8 : decode cL_chosen 8 = .ok (.invokestatic 46, 3) := by decide +kernel
theorem dL_chosen_11 : decode cL_chosen 11 = .ok (.iload_n 1, 1) := by decide +kernel
theorem dL_chosen_12 : decode cL_chosen 12 = .ok (.invokestatic 50, 3) := by decide +kernel
theorem dL_chosen_15 : decode cL_chosen 15 = .ok (.istore_n 2, 1) := by decide +kernel
theorem dL_chosen_16 : decode cL_chosen 16 = .ok (.aload_n 0, 1) := by decide +kernel
theorem dL_chosen_17 : decode cL_chosen 17 = .ok (.dup, 1) := by decide +kernel
theorem dL_chosen_18 : decode cL_chosen 18 = .ok (.getfield 42, 3) := by decide +kernel
theorem dL_chosen_21 : decode cL_chosen 21 = .ok (.iconst 1, 1) := by decide +kernel
theorem dL_chosen_22 : decode cL_chosen 22 = .ok (.iadd, 1) := by decide +kernel
theorem dL_chosen_23 : decode cL_chosen 23 = .ok (.putfield 42, 3) := by decide +kernel
theorem dL_chosen_26 : decode cL_chosen 26 = .ok (.iload_n 2, 1) := by decide +kernel
theorem dL_chosen_27 : decode cL_chosen 27 = .ok (.ireturn, 1) := by decide +kernel
theorem dL_from_0 : decode cL_from 0 = .ok (.iload_n 1, 1) := by decide +kernel
theorem dL_from_1 : decode cL_from 1 = .ok (.aload_n 0, 1) := by decide +kernel
theorem dL_from_2 : decode cL_from 2 = .ok (.iload_n 2, 1) := by decide +kernel
theorem dL_from_3 : decode cL_from 3 = .ok (.iload_n 1, 1) := by decide +kernel
theorem dL_from_4 : decode cL_from 4 = .ok (.isub, 1) := by decide +kernel
theorem dL_from_5 : decode cL_from 5 = .ok (.iconst 1, 1) := by decide +kernel
theorem dL_from_6 : decode cL_from 6 = .ok (.iadd, 1) := by decide +kernel
theorem dL_from_7 : decode cL_from 7 = .ok (.invokevirtual 54, 3) := by decide +kernel
theorem dL_from_10 : decode cL_from 10 = .ok (.iadd, 1) := by decide +kernel
theorem dL_from_11 : decode cL_from 11 = .ok (.ireturn, 1) := by decide +kernel
theorem dL_law_0 : decode cL_law 0 = .ok (.new 8, 3) := by decide +kernel
theorem dL_law_3 : decode cL_law 3 = .ok (.dup, 1) := by decide +kernel
theorem dL_law_4 : decode cL_law 4 = .ok (.invokespecial 57, 3) := by decide +kernel
theorem dL_law_7 : decode cL_law 7 = .ok (.astore_n 1, 1) := by decide +kernel
theorem dL_law_8 : decode cL_law 8 = .ok (.aload_n 1, 1) := by decide +kernel
theorem dL_law_9 : decode cL_law 9 = .ok (.aload_n 0, 1) := by decide +kernel
theorem dL_law_10 : decode cL_law 10 = .ok (.putfield 7, 3) := by decide +kernel
theorem dL_law_13 : decode cL_law 13 = .ok (.new 33, 3) := by decide +kernel
theorem dL_law_16 : decode cL_law 16 = .ok (.dup, 1) := by decide +kernel
theorem dL_law_17 : decode cL_law 17 = .ok (.invokespecial 58, 3) := by decide +kernel
theorem dL_law_20 : decode cL_law 20 = .ok (.astore_n 2, 1) := by decide +kernel
theorem dL_law_21 : decode cL_law 21 = .ok (.aload_n 1, 1) := by decide +kernel
theorem dL_law_22 : decode cL_law 22 = .ok (.invokevirtual 59, 3) := by decide +kernel
theorem dL_law_25 : decode cL_law 25 = .ok (.astore_n 3, 1) := by decide +kernel
theorem dL_law_26 : decode cL_law 26 = .ok (.aload_n 2, 1) := by decide +kernel
theorem dL_law_27 : decode cL_law 27 = .ok (.aload_n 3, 1) := by decide +kernel
theorem dL_law_28 : decode cL_law 28 = .ok (.invokestatic 63, 3) := by decide +kernel
theorem dL_law_31 : decode cL_law 31 = .ok (.aload_n 1, 1) := by decide +kernel
theorem dL_law_32 : decode cL_law 32 = .ok (.invokevirtual 66, 3) := by decide +kernel
theorem dL_law_35 : decode cL_law 35 = .ok (.if_icmp .ne 21, 3) := by decide +kernel
theorem dL_law_38 : decode cL_law 38 = .ok (.aload_n 2, 1) := by decide +kernel
theorem dL_law_39 : decode cL_law 39 = .ok (.invokevirtual 69, 3) := by decide +kernel
theorem dL_law_42 : decode cL_law 42 = .ok (.ifCond .ne 14, 3) := by decide +kernel
theorem dL_law_45 : decode cL_law 45 = .ok (.aload_n 2, 1) := by decide +kernel
theorem dL_law_46 : decode cL_law 46 = .ok (.invokevirtual 72, 3) := by decide +kernel
theorem dL_law_49 : decode cL_law 49 = .ok (.aload_n 1, 1) := by decide +kernel
theorem dL_law_50 : decode cL_law 50 = .ok (.getfield 75, 3) := by decide +kernel
theorem dL_law_53 : decode cL_law 53 = .ok (.if_icmp .eq 5, 3) := by decide +kernel
theorem dL_law_56 : decode cL_law 56 = .ok (.iconst 0, 1) := by decide +kernel
theorem dL_law_57 : decode cL_law 57 = .ok (.ireturn, 1) := by decide +kernel
theorem dL_law_58 : decode cL_law 58 = .ok (.aload_n 1, 1) := by decide +kernel
theorem dL_law_59 : decode cL_law 59 = .ok (.aload_n 2, 1) := by decide +kernel
theorem dL_law_60 : decode cL_law 60 = .ok (.invokevirtual 78, 3) := by decide +kernel
theorem dL_law_63 : decode cL_law 63 = .ok (.ifCond .eq 11, 3) := by decide +kernel
theorem dL_law_66 : decode cL_law 66 = .ok (.aload_n 1, 1) := by decide +kernel
theorem dL_law_67 : decode cL_law 67 = .ok (.aload_n 2, 1) := by decide +kernel
theorem dL_law_68 : decode cL_law 68 = .ok (.invokevirtual 82, 3) := by decide +kernel
theorem dL_law_71 : decode cL_law 71 = .ok (.ifCond .ne 5, 3) := by decide +kernel
theorem dL_law_74 : decode cL_law 74 = .ok (.iconst 0, 1) := by decide +kernel
theorem dL_law_75 : decode cL_law 75 = .ok (.ireturn, 1) := by decide +kernel
theorem dL_law_76 : decode cL_law 76 = .ok (.iconst 0, 1) := by decide +kernel
theorem dL_law_77 : decode cL_law 77 = .ok (.istore 4, 2) := by decide +kernel
theorem dL_law_79 : decode cL_law 79 = .ok (.iload 4, 2) := by decide +kernel
theorem dL_law_81 : decode cL_law 81 = .ok (.bipush 12, 2) := by decide +kernel
theorem dL_law_83 : decode cL_law 83 = .ok (.if_icmp .ge 19, 3) := by decide +kernel
theorem dL_law_86 : decode cL_law 86 = .ok (.aload_n 1, 1) := by decide +kernel
theorem dL_law_87 : decode cL_law 87 = .ok (.aload_n 2, 1) := by decide +kernel
theorem dL_law_88 : decode cL_law 88 = .ok (.invokevirtual 85, 3) := by decide +kernel
theorem dL_law_91 : decode cL_law 91 = .ok (.ifCond .ne 5, 3) := by decide +kernel
theorem dL_law_94 : decode cL_law 94 = .ok (.iconst 0, 1) := by decide +kernel
theorem dL_law_95 : decode cL_law 95 = .ok (.ireturn, 1) := by decide +kernel
theorem dL_law_96 : decode cL_law 96 = .ok (.iinc 4 1, 3) := by decide +kernel
theorem dL_law_99 : decode cL_law 99 = .ok (.goto (-20), 3) := by decide +kernel
theorem dL_law_102 : decode cL_law 102 = .ok (.aload_n 2, 1) := by decide +kernel
theorem dL_law_103 : decode cL_law 103 = .ok (.invokestatic 88, 3) := by decide +kernel
theorem dL_law_106 : decode cL_law 106 = .ok (.ifCond .eq 22, 3) := by decide +kernel
theorem dL_law_109 : decode cL_law 109 = .ok (.aload_n 2, 1) := by decide +kernel
theorem dL_law_110 : decode cL_law 110 = .ok (.invokestatic 91, 3) := by decide +kernel
theorem dL_law_113 : decode cL_law 113 = .ok (.ifCond .eq 15, 3) := by decide +kernel
theorem dL_law_116 : decode cL_law 116 = .ok (.aload_n 1, 1) := by decide +kernel
theorem dL_law_117 : decode cL_law 117 = .ok (.aload_n 2, 1) := by decide +kernel
theorem dL_law_118 : decode cL_law 118 = .ok (.invokevirtual 94, 3) := by decide +kernel
theorem dL_law_121 : decode cL_law 121 = .ok (.ifCond .eq 7, 3) := by decide +kernel
theorem dL_law_124 : decode cL_law 124 = .ok (.iconst 1, 1) := by decide +kernel
theorem dL_law_125 : decode cL_law 125 = .ok (.goto 4, 3) := by decide +kernel
theorem dL_law_128 : decode cL_law 128 = .ok (.iconst 0, 1) := by decide +kernel
theorem dL_law_129 : decode cL_law 129 = .ok (.ireturn, 1) := by decide +kernel
theorem dL_told_0 : decode cL_told 0 = .ok (.aload_n 0, 1) := by decide +kernel
theorem dL_told_1 : decode cL_told 1 = .ok (.aload_n 0, 1) := by decide +kernel
theorem dL_told_2 : decode cL_told 2 = .ok (.iconst 1, 1) := by decide +kernel
theorem dL_told_3 : decode cL_told 3 = .ok (.bipush 6, 2) := by decide +kernel
theorem dL_told_5 : decode cL_told 5 = .ok (.invokevirtual 97, 3) := by decide +kernel
theorem dL_told_8 : decode cL_told 8 = .ok (.putfield 75, 3) := by decide +kernel
theorem dL_told_11 : decode cL_told 11 = .ok (.aload_n 0, 1) := by decide +kernel
theorem dL_told_12 : decode cL_told 12 = .ok (.aload_n 0, 1) := by decide +kernel
theorem dL_told_13 : decode cL_told 13 = .ok (.iconst 3, 1) := by decide +kernel
theorem dL_told_14 : decode cL_told 14 = .ok (.invokevirtual 54, 3) := by decide +kernel
theorem dL_told_17 : decode cL_told 17 = .ok (.putfield 100, 3) := by decide +kernel
theorem dL_told_20 : decode cL_told 20 = .ok (.bipush 6, 2) := by decide +kernel
theorem dL_told_22 : decode cL_told 22 = .ok (.newarray .int, 2) := by decide +kernel
theorem dL_told_24 : decode cL_told 24 = .ok (.astore_n 1, 1) := by decide +kernel
theorem dL_told_25 : decode cL_told 25 = .ok (.ldc 103, 2) := by decide +kernel
theorem dL_told_27 : decode cL_told 27 = .ok (.astore_n 2, 1) := by decide +kernel
theorem dL_told_28 : decode cL_told 28 = .ok (.iconst 0, 1) := by decide +kernel
theorem dL_told_29 : decode cL_told 29 = .ok (.istore_n 3, 1) := by decide +kernel
theorem dL_told_30 : decode cL_told 30 = .ok (.iconst 0, 1) := by decide +kernel
theorem dL_told_31 : decode cL_told 31 = .ok (.istore 4, 2) := by decide +kernel
theorem dL_told_33 : decode cL_told 33 = .ok (.iload 4, 2) := by decide +kernel
theorem dL_told_35 : decode cL_told 35 = .ok (.aload_n 0, 1) := by decide +kernel
theorem dL_told_36 : decode cL_told 36 = .ok (.getfield 75, 3) := by decide +kernel
theorem dL_told_39 : decode cL_told 39 = .ok (.if_icmp .ge 78, 3) := by decide +kernel
theorem dL_told_42 : decode cL_told 42 = .ok (.aload_n 1, 1) := by decide +kernel
theorem dL_told_43 : decode cL_told 43 = .ok (.iload 4, 2) := by decide +kernel
theorem dL_told_45 : decode cL_told 45 = .ok (.aload_n 0, 1) := by decide +kernel
theorem dL_told_46 : decode cL_told 46 = .ok (.iconst 4, 1) := by decide +kernel
theorem dL_told_47 : decode cL_told 47 = .ok (.invokevirtual 54, 3) := by decide +kernel
theorem dL_told_50 : decode cL_told 50 = .ok (.iastore, 1) := by decide +kernel
theorem dL_told_51 : decode cL_told 51 = .ok (.iload_n 3, 1) := by decide +kernel
theorem dL_told_52 : decode cL_told 52 = .ok (.aload_n 1, 1) := by decide +kernel
theorem dL_told_53 : decode cL_told 53 = .ok (.iload 4, 2) := by decide +kernel
theorem dL_told_55 : decode cL_told 55 = .ok (.iaload, 1) := by decide +kernel
theorem dL_told_56 : decode cL_told 56 = .ok (.iadd, 1) := by decide +kernel
theorem dL_told_57 : decode cL_told 57 = .ok (.istore_n 3, 1) := by decide +kernel
theorem dL_told_58 : decode cL_told 58 = .ok (.iload 4, 2) := by decide +kernel
theorem dL_told_60 : decode cL_told 60 = .ok (.aload_n 0, 1) := by decide +kernel
theorem dL_told_61 : decode cL_told 61 = .ok (.getfield 75, 3) := by decide +kernel
theorem dL_told_64 : decode cL_told 64 = .ok (.iconst 1, 1) := by decide +kernel
theorem dL_told_65 : decode cL_told 65 = .ok (.isub, 1) := by decide +kernel
theorem dL_told_66 : decode cL_told 66 = .ok (.if_icmp .ne 18, 3) := by decide +kernel
theorem dL_told_69 : decode cL_told 69 = .ok (.iload_n 3, 1) := by decide +kernel
theorem dL_told_70 : decode cL_told 70 = .ok (.iconst 2, 1) := by decide +kernel
theorem dL_told_71 : decode cL_told 71 = .ok (.irem, 1) := by decide +kernel
theorem dL_told_72 : decode cL_told 72 = .ok (.iconst 1, 1) := by decide +kernel
theorem dL_told_73 : decode cL_told 73 = .ok (.if_icmp .ne 11, 3) := by decide +kernel
theorem dL_told_76 : decode cL_told 76 = .ok (.aload_n 1, 1) := by decide +kernel
theorem dL_told_77 : decode cL_told 77 = .ok (.iload 4, 2) := by decide +kernel
theorem dL_told_79 : decode cL_told 79 = .ok (.dup2, 1) := by decide +kernel
theorem dL_told_80 : decode cL_told 80 = .ok (.iaload, 1) := by decide +kernel
theorem dL_told_81 : decode cL_told 81 = .ok (.iconst 1, 1) := by decide +kernel
theorem dL_told_82 : decode cL_told 82 = .ok (.iadd, 1) := by decide +kernel
theorem dL_told_83 : decode cL_told 83 = .ok (.iastore, 1) := by decide +kernel
theorem dL_told_84 : decode cL_told 84 = .ok (.new 105, 3) := by decide +kernel
theorem dL_told_87 : decode cL_told 87 = .ok (.dup, 1) := by decide +kernel
theorem dL_told_88 : decode cL_told 88 = .ok (.invokespecial 107, 3) := by decide +kernel
theorem dL_told_91 : decode cL_told 91 = .ok (.aload_n 2, 1) := by decide +kernel
theorem dL_told_92 : decode cL_told 92 = .ok (.invokevirtual 108, 3) := by decide +kernel
theorem dL_told_95 : decode cL_told 95 = .ok (.ldc 112, 2) := by decide +kernel
theorem dL_told_97 : decode cL_told 97 = .ok (.invokevirtual 108, 3) := by decide +kernel
theorem dL_told_100 : decode cL_told 100 = .ok (.aload_n 1, 1) := by decide +kernel
theorem dL_told_101 : decode cL_told 101 = .ok (.iload 4, 2) := by decide +kernel
theorem dL_told_103 : decode cL_told 103 = .ok (.iaload, 1) := by decide +kernel
theorem dL_told_104 : decode cL_told 104 = .ok (.invokevirtual 114, 3) := by decide +kernel
theorem dL_told_107 : decode cL_told 107 = .ok (.invokevirtual 117, 3) := by decide +kernel
theorem dL_told_110 : decode cL_told 110 = .ok (.astore_n 2, 1) := by decide +kernel
theorem dL_told_111 : decode cL_told 111 = .ok (.iinc 4 1, 3) := by decide +kernel
theorem dL_told_114 : decode cL_told 114 = .ok (.goto (-81), 3) := by decide +kernel
theorem dL_told_117 : decode cL_told 117 = .ok (.iconst (-1), 1) := by decide +kernel
theorem dL_told_118 : decode cL_told 118 = .ok (.istore 4, 2) := by decide +kernel
theorem dL_told_120 : decode cL_told 120 = .ok (.iconst 0, 1) := by decide +kernel
theorem dL_told_121 : decode cL_told 121 = .ok (.istore 5, 2) := by decide +kernel
theorem dL_told_123 : decode cL_told 123 = .ok (.iload 5, 2) := by decide +kernel
theorem dL_told_125 : decode cL_told 125 = .ok (.aload_n 0, 1) := by decide +kernel
theorem dL_told_126 : decode cL_told 126 = .ok (.getfield 75, 3) := by decide +kernel
theorem dL_told_129 : decode cL_told 129 = .ok (.if_icmp .ge 69, 3) := by decide +kernel
theorem dL_told_132 : decode cL_told 132 = .ok (.aload_n 0, 1) := by decide +kernel
theorem dL_told_133 : decode cL_told 133 = .ok (.getfield 15, 3) := by decide +kernel
theorem dL_told_136 : decode cL_told 136 = .ok (.iload 5, 2) := by decide +kernel
theorem dL_told_138 : decode cL_told 138 = .ok (.aaload, 1) := by decide +kernel
theorem dL_told_139 : decode cL_told 139 = .ok (.iload 5, 2) := by decide +kernel
theorem dL_told_141 : decode cL_told 141 = .ok (.aload_n 1, 1) := by decide +kernel
theorem dL_told_142 : decode cL_told 142 = .ok (.iload 5, 2) := by decide +kernel
theorem dL_told_144 : decode cL_told 144 = .ok (.iaload, 1) := by decide +kernel
theorem dL_told_145 : decode cL_told 145 = .ok (.iconst 2, 1) := by decide +kernel
theorem dL_told_146 : decode cL_told 146 = .ok (.idiv, 1) := by decide +kernel
theorem dL_told_147 : decode cL_told 147 = .ok (.iastore, 1) := by decide +kernel
theorem dL_told_148 : decode cL_told 148 = .ok (.aload_n 1, 1) := by decide +kernel
theorem dL_told_149 : decode cL_told 149 = .ok (.iload 5, 2) := by decide +kernel
theorem dL_told_151 : decode cL_told 151 = .ok (.iaload, 1) := by decide +kernel
theorem dL_told_152 : decode cL_told 152 = .ok (.iconst 2, 1) := by decide +kernel
theorem dL_told_153 : decode cL_told 153 = .ok (.irem, 1) := by decide +kernel
theorem dL_told_154 : decode cL_told 154 = .ok (.ifCond .ne 6, 3) := by decide +kernel
theorem dL_told_157 : decode cL_told 157 = .ok (.goto 35, 3) := by decide +kernel
theorem dL_told_160 : decode cL_told 160 = .ok (.iload 4, 2) := by decide +kernel
theorem dL_told_162 : decode cL_told 162 = .ok (.ifCond .lt 17, 3) := by decide +kernel
theorem dL_told_165 : decode cL_told 165 = .ok (.aload_n 0, 1) := by decide +kernel
theorem dL_told_166 : decode cL_told 166 = .ok (.getfield 15, 3) := by decide +kernel
theorem dL_told_169 : decode cL_told 169 = .ok (.iload 4, 2) := by decide +kernel
theorem dL_told_171 : decode cL_told 171 = .ok (.aaload, 1) := by decide +kernel
theorem dL_told_172 : decode cL_told 172 = .ok (.iload 5, 2) := by decide +kernel
theorem dL_told_174 : decode cL_told 174 = .ok (.dup2, 1) := by decide +kernel
theorem dL_told_175 : decode cL_told 175 = .ok (.iaload, 1) := by decide +kernel
theorem dL_told_176 : decode cL_told 176 = .ok (.iconst 1, 1) := by decide +kernel
theorem dL_told_177 : decode cL_told 177 = .ok (.iadd, 1) := by decide +kernel
theorem dL_told_178 : decode cL_told 178 = .ok (.iastore, 1) := by decide +kernel
theorem dL_told_179 : decode cL_told 179 = .ok (.iload 4, 2) := by decide +kernel
theorem dL_told_181 : decode cL_told 181 = .ok (.ifCond .lt 7, 3) := by decide +kernel
theorem dL_told_184 : decode cL_told 184 = .ok (.iconst (-1), 1) := by decide +kernel
theorem dL_told_185 : decode cL_told 185 = .ok (.goto 5, 3) := by decide +kernel
theorem dL_told_188 : decode cL_told 188 = .ok (.iload 5, 2) := by decide +kernel
theorem dL_told_190 : decode cL_told 190 = .ok (.istore 4, 2) := by decide +kernel
theorem dL_told_192 : decode cL_told 192 = .ok (.iinc 5 1, 3) := by decide +kernel
theorem dL_told_195 : decode cL_told 195 = .ok (.goto (-72), 3) := by decide +kernel
theorem dL_told_198 : decode cL_told 198 = .ok (.new 105, 3) := by decide +kernel
theorem dL_told_201 : decode cL_told 201 = .ok (.dup, 1) := by decide +kernel
theorem dL_told_202 : decode cL_told 202 = .ok (.invokespecial 107, 3) := by decide +kernel
theorem dL_told_205 : decode cL_told 205 = .ok (.aload_n 2, 1) := by decide +kernel
theorem dL_told_206 : decode cL_told 206 = .ok (.invokevirtual 108, 3) := by decide +kernel
theorem dL_told_209 : decode cL_told 209 = .ok (.ldc 120, 2) := by decide +kernel
theorem dL_told_211 : decode cL_told 211 = .ok (.invokevirtual 108, 3) := by decide +kernel
theorem dL_told_214 : decode cL_told 214 = .ok (.aload_n 0, 1) := by decide +kernel
theorem dL_told_215 : decode cL_told 215 = .ok (.getfield 100, 3) := by decide +kernel
theorem dL_told_218 : decode cL_told 218 = .ok (.invokevirtual 114, 3) := by decide +kernel
theorem dL_told_221 : decode cL_told 221 = .ok (.ldc 122, 2) := by decide +kernel
theorem dL_told_223 : decode cL_told 223 = .ok (.invokevirtual 108, 3) := by decide +kernel
theorem dL_told_226 : decode cL_told 226 = .ok (.invokevirtual 117, 3) := by decide +kernel
theorem dL_told_229 : decode cL_told 229 = .ok (.astore_n 2, 1) := by decide +kernel
theorem dL_told_230 : decode cL_told 230 = .ok (.aload_n 0, 1) := by decide +kernel
theorem dL_told_231 : decode cL_told 231 = .ok (.iconst 4, 1) := by decide +kernel
theorem dL_told_232 : decode cL_told 232 = .ok (.invokevirtual 54, 3) := by decide +kernel
theorem dL_told_235 : decode cL_told 235 = .ok (.istore 5, 2) := by decide +kernel
theorem dL_told_237 : decode cL_told 237 = .ok (.iload 5, 2) := by decide +kernel
theorem dL_told_239 : decode cL_told 239 = .ok (.ifCond .le 93, 3) := by decide +kernel
theorem dL_told_242 : decode cL_told 242 = .ok (.aload_n 0, 1) := by decide +kernel
theorem dL_told_243 : decode cL_told 243 = .ok (.aload_n 0, 1) := by decide +kernel
theorem dL_told_244 : decode cL_told 244 = .ok (.getfield 75, 3) := by decide +kernel
theorem dL_told_247 : decode cL_told 247 = .ok (.invokevirtual 54, 3) := by decide +kernel
theorem dL_told_250 : decode cL_told 250 = .ok (.istore 6, 2) := by decide +kernel
theorem dL_told_252 : decode cL_told 252 = .ok (.aload_n 0, 1) := by decide +kernel
theorem dL_told_253 : decode cL_told 253 = .ok (.aload_n 0, 1) := by decide +kernel
theorem dL_told_254 : decode cL_told 254 = .ok (.getfield 75, 3) := by decide +kernel
theorem dL_told_257 : decode cL_told 257 = .ok (.invokevirtual 54, 3) := by decide +kernel
theorem dL_told_260 : decode cL_told 260 = .ok (.istore 7, 2) := by decide +kernel
theorem dL_told_262 : decode cL_told 262 = .ok (.new 105, 3) := by decide +kernel
theorem dL_told_265 : decode cL_told 265 = .ok (.dup, 1) := by decide +kernel
theorem dL_told_266 : decode cL_told 266 = .ok (.invokespecial 107, 3) := by decide +kernel
theorem dL_told_269 : decode cL_told 269 = .ok (.aload_n 2, 1) := by decide +kernel
theorem dL_told_270 : decode cL_told 270 = .ok (.invokevirtual 108, 3) := by decide +kernel
theorem dL_told_273 : decode cL_told 273 = .ok (.ldc 124, 2) := by decide +kernel
theorem dL_told_275 : decode cL_told 275 = .ok (.invokevirtual 108, 3) := by decide +kernel
theorem dL_told_278 : decode cL_told 278 = .ok (.iload 6, 2) := by decide +kernel
theorem dL_told_280 : decode cL_told 280 = .ok (.invokevirtual 114, 3) := by decide +kernel
theorem dL_told_283 : decode cL_told 283 = .ok (.ldc 112, 2) := by decide +kernel
theorem dL_told_285 : decode cL_told 285 = .ok (.invokevirtual 108, 3) := by decide +kernel
theorem dL_told_288 : decode cL_told 288 = .ok (.iload 7, 2) := by decide +kernel
theorem dL_told_290 : decode cL_told 290 = .ok (.invokevirtual 114, 3) := by decide +kernel
theorem dL_told_293 : decode cL_told 293 = .ok (.ldc 122, 2) := by decide +kernel
theorem dL_told_295 : decode cL_told 295 = .ok (.invokevirtual 108, 3) := by decide +kernel
theorem dL_told_298 : decode cL_told 298 = .ok (.invokevirtual 117, 3) := by decide +kernel
theorem dL_told_301 : decode cL_told 301 = .ok (.astore_n 2, 1) := by decide +kernel
theorem dL_told_302 : decode cL_told 302 = .ok (.aload_n 0, 1) := by decide +kernel
theorem dL_told_303 : decode cL_told 303 = .ok (.getfield 15, 3) := by decide +kernel
theorem dL_told_306 : decode cL_told 306 = .ok (.iload 6, 2) := by decide +kernel
theorem dL_told_308 : decode cL_told 308 = .ok (.iload 7, 2) := by decide +kernel
theorem dL_told_310 : decode cL_told 310 = .ok (.invokestatic 126, 3) := by decide +kernel
theorem dL_told_313 : decode cL_told 313 = .ok (.aaload, 1) := by decide +kernel
theorem dL_told_314 : decode cL_told 314 = .ok (.iload 6, 2) := by decide +kernel
theorem dL_told_316 : decode cL_told 316 = .ok (.iload 7, 2) := by decide +kernel
theorem dL_told_318 : decode cL_told 318 = .ok (.invokestatic 131, 3) := by decide +kernel
theorem dL_told_321 : decode cL_told 321 = .ok (.dup2, 1) := by decide +kernel
theorem dL_told_322 : decode cL_told 322 = .ok (.iaload, 1) := by decide +kernel
theorem dL_told_323 : decode cL_told 323 = .ok (.iconst 1, 1) := by decide +kernel
theorem dL_told_324 : decode cL_told 324 = .ok (.iadd, 1) := by decide +kernel
theorem dL_told_325 : decode cL_told 325 = .ok (.iastore, 1) := by decide +kernel
theorem dL_told_326 : decode cL_told 326 = .ok (.iinc 5 (-1), 3) := by decide +kernel
theorem dL_told_329 : decode cL_told 329 = .ok (.goto (-92), 3) := by decide +kernel
theorem dL_told_332 : decode cL_told 332 = .ok (.aload_n 2, 1) := by decide +kernel
theorem dL_told_333 : decode cL_told 333 = .ok (.areturn, 1) := by decide +kernel
theorem dL_edges_0 : decode cL_edges 0 = .ok (.iconst 0, 1) := by decide +kernel
theorem dL_edges_1 : decode cL_edges 1 = .ok (.istore_n 1, 1) := by decide +kernel
theorem dL_edges_2 : decode cL_edges 2 = .ok (.iconst 0, 1) := by decide +kernel
theorem dL_edges_3 : decode cL_edges 3 = .ok (.istore_n 2, 1) := by decide +kernel
theorem dL_edges_4 : decode cL_edges 4 = .ok (.iload_n 2, 1) := by decide +kernel
theorem dL_edges_5 : decode cL_edges 5 = .ok (.aload_n 0, 1) := by decide +kernel
theorem dL_edges_6 : decode cL_edges 6 = .ok (.getfield 75, 3) := by decide +kernel
theorem dL_edges_9 : decode cL_edges 9 = .ok (.if_icmp .ge 36, 3) := by decide +kernel
theorem dL_edges_12 : decode cL_edges 12 = .ok (.iload_n 2, 1) := by decide +kernel
theorem dL_edges_13 : decode cL_edges 13 = .ok (.istore_n 3, 1) := by decide +kernel
theorem dL_edges_14 : decode cL_edges 14 = .ok (.iload_n 3, 1) := by decide +kernel
theorem dL_edges_15 : decode cL_edges 15 = .ok (.aload_n 0, 1) := by decide +kernel
theorem dL_edges_16 : decode cL_edges 16 = .ok (.getfield 75, 3) := by decide +kernel
theorem dL_edges_19 : decode cL_edges 19 = .ok (.if_icmp .ge 20, 3) := by decide +kernel
theorem dL_edges_22 : decode cL_edges 22 = .ok (.iload_n 1, 1) := by decide +kernel
theorem dL_edges_23 : decode cL_edges 23 = .ok (.aload_n 0, 1) := by decide +kernel
theorem dL_edges_24 : decode cL_edges 24 = .ok (.getfield 15, 3) := by decide +kernel
theorem dL_edges_27 : decode cL_edges 27 = .ok (.iload_n 2, 1) := by decide +kernel
theorem dL_edges_28 : decode cL_edges 28 = .ok (.aaload, 1) := by decide +kernel
theorem dL_edges_29 : decode cL_edges 29 = .ok (.iload_n 3, 1) := by decide +kernel
theorem dL_edges_30 : decode cL_edges 30 = .ok (.iaload, 1) := by decide +kernel
theorem dL_edges_31 : decode cL_edges 31 = .ok (.iadd, 1) := by decide +kernel
theorem dL_edges_32 : decode cL_edges 32 = .ok (.istore_n 1, 1) := by decide +kernel
theorem dL_edges_33 : decode cL_edges 33 = .ok (.iinc 3 1, 3) := by decide +kernel
theorem dL_edges_36 : decode cL_edges 36 = .ok (.goto (-22), 3) := by decide +kernel
theorem dL_edges_39 : decode cL_edges 39 = .ok (.iinc 2 1, 3) := by decide +kernel
theorem dL_edges_42 : decode cL_edges 42 = .ok (.goto (-38), 3) := by decide +kernel
theorem dL_edges_45 : decode cL_edges 45 = .ok (.iload_n 1, 1) := by decide +kernel
theorem dL_edges_46 : decode cL_edges 46 = .ok (.ireturn, 1) := by decide +kernel
theorem dL_many_0 : decode cL_many 0 = .ok (.aload_n 0, 1) := by decide +kernel
theorem dL_many_1 : decode cL_many 1 = .ok (.getfield 15, 3) := by decide +kernel
theorem dL_many_4 : decode cL_many 4 = .ok (.iload_n 1, 1) := by decide +kernel
theorem dL_many_5 : decode cL_many 5 = .ok (.iload_n 2, 1) := by decide +kernel
theorem dL_many_6 : decode cL_many 6 = .ok (.invokestatic 126, 3) := by decide +kernel
theorem dL_many_9 : decode cL_many 9 = .ok (.aaload, 1) := by decide +kernel
theorem dL_many_10 : decode cL_many 10 = .ok (.iload_n 1, 1) := by decide +kernel
theorem dL_many_11 : decode cL_many 11 = .ok (.iload_n 2, 1) := by decide +kernel
theorem dL_many_12 : decode cL_many 12 = .ok (.invokestatic 131, 3) := by decide +kernel
theorem dL_many_15 : decode cL_many 15 = .ok (.iaload, 1) := by decide +kernel
theorem dL_many_16 : decode cL_many 16 = .ok (.ireturn, 1) := by decide +kernel
theorem dL_degree_0 : decode cL_degree 0 = .ok (.aload_n 0, 1) := by decide +kernel
theorem dL_degree_1 : decode cL_degree 1 = .ok (.getfield 15, 3) := by decide +kernel
theorem dL_degree_4 : decode cL_degree 4 = .ok (.iload_n 1, 1) := by decide +kernel
theorem dL_degree_5 : decode cL_degree 5 = .ok (.aaload, 1) := by decide +kernel
theorem dL_degree_6 : decode cL_degree 6 = .ok (.iload_n 1, 1) := by decide +kernel
theorem dL_degree_7 : decode cL_degree 7 = .ok (.iaload, 1) := by decide +kernel
theorem dL_degree_8 : decode cL_degree 8 = .ok (.istore_n 2, 1) := by decide +kernel
theorem dL_degree_9 : decode cL_degree 9 = .ok (.iconst 0, 1) := by decide +kernel
theorem dL_degree_10 : decode cL_degree 10 = .ok (.istore_n 3, 1) := by decide +kernel
theorem dL_degree_11 : decode cL_degree 11 = .ok (.iload_n 3, 1) := by decide +kernel
theorem dL_degree_12 : decode cL_degree 12 = .ok (.aload_n 0, 1) := by decide +kernel
theorem dL_degree_13 : decode cL_degree 13 = .ok (.getfield 75, 3) := by decide +kernel
theorem dL_degree_16 : decode cL_degree 16 = .ok (.if_icmp .ge 18, 3) := by decide +kernel
theorem dL_degree_19 : decode cL_degree 19 = .ok (.iload_n 2, 1) := by decide +kernel
theorem dL_degree_20 : decode cL_degree 20 = .ok (.aload_n 0, 1) := by decide +kernel
theorem dL_degree_21 : decode cL_degree 21 = .ok (.iload_n 1, 1) := by decide +kernel
theorem dL_degree_22 : decode cL_degree 22 = .ok (.iload_n 3, 1) := by decide +kernel
theorem dL_degree_23 : decode cL_degree 23 = .ok (.invokevirtual 134, 3) := by decide +kernel
theorem dL_degree_26 : decode cL_degree 26 = .ok (.iadd, 1) := by decide +kernel
theorem dL_degree_27 : decode cL_degree 27 = .ok (.istore_n 2, 1) := by decide +kernel
theorem dL_degree_28 : decode cL_degree 28 = .ok (.iinc 3 1, 3) := by decide +kernel
theorem dL_degree_31 : decode cL_degree 31 = .ok (.goto (-20), 3) := by decide +kernel
theorem dL_degree_34 : decode cL_degree 34 = .ok (.iload_n 2, 1) := by decide +kernel
theorem dL_degree_35 : decode cL_degree 35 = .ok (.ireturn, 1) := by decide +kernel
theorem dL_isGraph_0 : decode cL_isGraph 0 = .ok (.iconst 0, 1) := by decide +kernel
theorem dL_isGraph_1 : decode cL_isGraph 1 = .ok (.istore_n 2, 1) := by decide +kernel
theorem dL_isGraph_2 : decode cL_isGraph 2 = .ok (.iconst 0, 1) := by decide +kernel
theorem dL_isGraph_3 : decode cL_isGraph 3 = .ok (.istore_n 3, 1) := by decide +kernel
theorem dL_isGraph_4 : decode cL_isGraph 4 = .ok (.iconst 0, 1) := by decide +kernel
theorem dL_isGraph_5 : decode cL_isGraph 5 = .ok (.istore 4, 2) := by decide +kernel
theorem dL_isGraph_7 : decode cL_isGraph 7 = .ok (.iconst 0, 1) := by decide +kernel
theorem dL_isGraph_8 : decode cL_isGraph 8 = .ok (.istore 5, 2) := by decide +kernel
theorem dL_isGraph_10 : decode cL_isGraph 10 = .ok (.iload 5, 2) := by decide +kernel
theorem dL_isGraph_12 : decode cL_isGraph 12 = .ok (.aload_n 0, 1) := by decide +kernel
theorem dL_isGraph_13 : decode cL_isGraph 13 = .ok (.getfield 75, 3) := by decide +kernel
theorem dL_isGraph_16 : decode cL_isGraph 16 = .ok (.if_icmp .ge 191, 3) := by decide +kernel
theorem dL_isGraph_19 : decode cL_isGraph 19 = .ok (.iload_n 2, 1) := by decide +kernel
theorem dL_isGraph_20 : decode cL_isGraph 20 = .ok (.aload_n 0, 1) := by decide +kernel
theorem dL_isGraph_21 : decode cL_isGraph 21 = .ok (.getfield 15, 3) := by decide +kernel
theorem dL_isGraph_24 : decode cL_isGraph 24 = .ok (.iload 5, 2) := by decide +kernel
theorem dL_isGraph_26 : decode cL_isGraph 26 = .ok (.aaload, 1) := by decide +kernel
theorem dL_isGraph_27 : decode cL_isGraph 27 = .ok (.iload 5, 2) := by decide +kernel
theorem dL_isGraph_29 : decode cL_isGraph 29 = .ok (.iaload, 1) := by decide +kernel
theorem dL_isGraph_30 : decode cL_isGraph 30 = .ok (.iadd, 1) := by decide +kernel
theorem dL_isGraph_31 : decode cL_isGraph 31 = .ok (.istore_n 2, 1) := by decide +kernel
theorem dL_isGraph_32 : decode cL_isGraph 32 = .ok (.aload_n 1, 1) := by decide +kernel
theorem dL_isGraph_33 : decode cL_isGraph 33 = .ok (.iload 5, 2) := by decide +kernel
theorem dL_isGraph_35 : decode cL_isGraph 35 = .ok (.iconst 0, 1) := by decide +kernel
theorem dL_isGraph_36 : decode cL_isGraph 36 = .ok (.invokevirtual 137, 3) := by decide +kernel
theorem dL_isGraph_39 : decode cL_isGraph 39 = .ok (.aload_n 0, 1) := by decide +kernel
theorem dL_isGraph_40 : decode cL_isGraph 40 = .ok (.iload 5, 2) := by decide +kernel
theorem dL_isGraph_42 : decode cL_isGraph 42 = .ok (.invokevirtual 141, 3) := by decide +kernel
theorem dL_isGraph_45 : decode cL_isGraph 45 = .ok (.if_icmp .eq 5, 3) := by decide +kernel
theorem dL_isGraph_48 : decode cL_isGraph 48 = .ok (.iconst 0, 1) := by decide +kernel
theorem dL_isGraph_49 : decode cL_isGraph 49 = .ok (.ireturn, 1) := by decide +kernel
theorem dL_isGraph_50 : decode cL_isGraph 50 = .ok (.iconst 0, 1) := by decide +kernel
theorem dL_isGraph_51 : decode cL_isGraph 51 = .ok (.istore 6, 2) := by decide +kernel
theorem dL_isGraph_53 : decode cL_isGraph 53 = .ok (.iload 6, 2) := by decide +kernel
theorem dL_isGraph_55 : decode cL_isGraph 55 = .ok (.aload_n 0, 1) := by decide +kernel
theorem dL_isGraph_56 : decode cL_isGraph 56 = .ok (.getfield 75, 3) := by decide +kernel
theorem dL_isGraph_59 : decode cL_isGraph 59 = .ok (.if_icmp .ge 142, 3) := by decide +kernel
theorem dL_isGraph_62 : decode cL_isGraph 62 = .ok (.aload_n 1, 1) := by decide +kernel
theorem dL_isGraph_63 : decode cL_isGraph 63 = .ok (.iload 5, 2) := by decide +kernel
theorem dL_isGraph_65 : decode cL_isGraph 65 = .ok (.iload 6, 2) := by decide +kernel
theorem dL_isGraph_67 : decode cL_isGraph 67 = .ok (.iconst 0, 1) := by decide +kernel
theorem dL_isGraph_68 : decode cL_isGraph 68 = .ok (.invokevirtual 143, 3) := by decide +kernel
theorem dL_isGraph_71 : decode cL_isGraph 71 = .ok (.aload_n 0, 1) := by decide +kernel
theorem dL_isGraph_72 : decode cL_isGraph 72 = .ok (.iload 5, 2) := by decide +kernel
theorem dL_isGraph_74 : decode cL_isGraph 74 = .ok (.iload 6, 2) := by decide +kernel
theorem dL_isGraph_76 : decode cL_isGraph 76 = .ok (.invokevirtual 134, 3) := by decide +kernel
theorem dL_isGraph_79 : decode cL_isGraph 79 = .ok (.if_icmp .ne 15, 3) := by decide +kernel
theorem dL_isGraph_82 : decode cL_isGraph 82 = .ok (.aload_n 1, 1) := by decide +kernel
theorem dL_isGraph_83 : decode cL_isGraph 83 = .ok (.iload 5, 2) := by decide +kernel
theorem dL_isGraph_85 : decode cL_isGraph 85 = .ok (.iload 6, 2) := by decide +kernel
theorem dL_isGraph_87 : decode cL_isGraph 87 = .ok (.iconst 1, 1) := by decide +kernel
theorem dL_isGraph_88 : decode cL_isGraph 88 = .ok (.invokevirtual 143, 3) := by decide +kernel
theorem dL_isGraph_91 : decode cL_isGraph 91 = .ok (.ifCond .eq 5, 3) := by decide +kernel
theorem dL_isGraph_94 : decode cL_isGraph 94 = .ok (.iconst 0, 1) := by decide +kernel
theorem dL_isGraph_95 : decode cL_isGraph 95 = .ok (.ireturn, 1) := by decide +kernel
theorem dL_isGraph_96 : decode cL_isGraph 96 = .ok (.iload_n 3, 1) := by decide +kernel
theorem dL_isGraph_97 : decode cL_isGraph 97 = .ok (.iload 6, 2) := by decide +kernel
theorem dL_isGraph_99 : decode cL_isGraph 99 = .ok (.iload 5, 2) := by decide +kernel
theorem dL_isGraph_101 : decode cL_isGraph 101 = .ok (.if_icmp .le 20, 3) := by decide +kernel
theorem dL_isGraph_104 : decode cL_isGraph 104 = .ok (.iconst 0, 1) := by decide +kernel
theorem dL_isGraph_105 : decode cL_isGraph 105 = .ok (.aload_n 0, 1) := by decide +kernel
theorem dL_isGraph_106 : decode cL_isGraph 106 = .ok (.iload 5, 2) := by decide +kernel
theorem dL_isGraph_108 : decode cL_isGraph 108 = .ok (.iload 6, 2) := by decide +kernel
theorem dL_isGraph_110 : decode cL_isGraph 110 = .ok (.invokevirtual 134, 3) := by decide +kernel
theorem dL_isGraph_113 : decode cL_isGraph 113 = .ok (.iconst 1, 1) := by decide +kernel
theorem dL_isGraph_114 : decode cL_isGraph 114 = .ok (.isub, 1) := by decide +kernel
theorem dL_isGraph_115 : decode cL_isGraph 115 = .ok (.invokestatic 131, 3) := by decide +kernel
theorem dL_isGraph_118 : decode cL_isGraph 118 = .ok (.goto 4, 3) := by decide +kernel
theorem dL_isGraph_121 : decode cL_isGraph 121 = .ok (.iconst 0, 1) := by decide +kernel
theorem dL_isGraph_122 : decode cL_isGraph 122 = .ok (.iadd, 1) := by decide +kernel
theorem dL_isGraph_123 : decode cL_isGraph 123 = .ok (.istore_n 3, 1) := by decide +kernel
theorem dL_isGraph_124 : decode cL_isGraph 124 = .ok (.iload 6, 2) := by decide +kernel
theorem dL_isGraph_126 : decode cL_isGraph 126 = .ok (.iconst 1, 1) := by decide +kernel
theorem dL_isGraph_127 : decode cL_isGraph 127 = .ok (.iadd, 1) := by decide +kernel
theorem dL_isGraph_128 : decode cL_isGraph 128 = .ok (.istore 7, 2) := by decide +kernel
theorem dL_isGraph_130 : decode cL_isGraph 130 = .ok (.iload 7, 2) := by decide +kernel
theorem dL_isGraph_132 : decode cL_isGraph 132 = .ok (.aload_n 0, 1) := by decide +kernel
theorem dL_isGraph_133 : decode cL_isGraph 133 = .ok (.getfield 75, 3) := by decide +kernel
theorem dL_isGraph_136 : decode cL_isGraph 136 = .ok (.if_icmp .ge 59, 3) := by decide +kernel
theorem dL_isGraph_139 : decode cL_isGraph 139 = .ok (.iload 6, 2) := by decide +kernel
theorem dL_isGraph_141 : decode cL_isGraph 141 = .ok (.iload 5, 2) := by decide +kernel
theorem dL_isGraph_143 : decode cL_isGraph 143 = .ok (.if_icmp .le 52, 3) := by decide +kernel
theorem dL_isGraph_146 : decode cL_isGraph 146 = .ok (.iload 4, 2) := by decide +kernel
theorem dL_isGraph_148 : decode cL_isGraph 148 = .ok (.aload_n 0, 1) := by decide +kernel
theorem dL_isGraph_149 : decode cL_isGraph 149 = .ok (.iload 5, 2) := by decide +kernel
theorem dL_isGraph_151 : decode cL_isGraph 151 = .ok (.iload 6, 2) := by decide +kernel
theorem dL_isGraph_153 : decode cL_isGraph 153 = .ok (.invokevirtual 134, 3) := by decide +kernel
theorem dL_isGraph_156 : decode cL_isGraph 156 = .ok (.ifCond .le 29, 3) := by decide +kernel
theorem dL_isGraph_159 : decode cL_isGraph 159 = .ok (.aload_n 0, 1) := by decide +kernel
theorem dL_isGraph_160 : decode cL_isGraph 160 = .ok (.iload 6, 2) := by decide +kernel
theorem dL_isGraph_162 : decode cL_isGraph 162 = .ok (.iload 7, 2) := by decide +kernel
theorem dL_isGraph_164 : decode cL_isGraph 164 = .ok (.invokevirtual 134, 3) := by decide +kernel
theorem dL_isGraph_167 : decode cL_isGraph 167 = .ok (.ifCond .le 18, 3) := by decide +kernel
theorem dL_isGraph_170 : decode cL_isGraph 170 = .ok (.aload_n 0, 1) := by decide +kernel
theorem dL_isGraph_171 : decode cL_isGraph 171 = .ok (.iload 5, 2) := by decide +kernel
theorem dL_isGraph_173 : decode cL_isGraph 173 = .ok (.iload 7, 2) := by decide +kernel
theorem dL_isGraph_175 : decode cL_isGraph 175 = .ok (.invokevirtual 134, 3) := by decide +kernel
theorem dL_isGraph_178 : decode cL_isGraph 178 = .ok (.ifCond .le 7, 3) := by decide +kernel
theorem dL_isGraph_181 : decode cL_isGraph 181 = .ok (.iconst 1, 1) := by decide +kernel
theorem dL_isGraph_182 : decode cL_isGraph 182 = .ok (.goto 4, 3) := by decide +kernel
theorem dL_isGraph_185 : decode cL_isGraph 185 = .ok (.iconst 0, 1) := by decide +kernel
theorem dL_isGraph_186 : decode cL_isGraph 186 = .ok (.iadd, 1) := by decide +kernel
theorem dL_isGraph_187 : decode cL_isGraph 187 = .ok (.istore 4, 2) := by decide +kernel
theorem dL_isGraph_189 : decode cL_isGraph 189 = .ok (.iinc 7 1, 3) := by decide +kernel
theorem dL_isGraph_192 : decode cL_isGraph 192 = .ok (.goto (-62), 3) := by decide +kernel
theorem dL_isGraph_195 : decode cL_isGraph 195 = .ok (.iinc 6 1, 3) := by decide +kernel
theorem dL_isGraph_198 : decode cL_isGraph 198 = .ok (.goto (-145), 3) := by decide +kernel
theorem dL_isGraph_201 : decode cL_isGraph 201 = .ok (.iinc 5 1, 3) := by decide +kernel
theorem dL_isGraph_204 : decode cL_isGraph 204 = .ok (.goto (-194), 3) := by decide +kernel
theorem dL_isGraph_207 : decode cL_isGraph 207 = .ok (.bipush 6, 2) := by decide +kernel
theorem dL_isGraph_209 : decode cL_isGraph 209 = .ok (.newarray .int, 2) := by decide +kernel
theorem dL_isGraph_211 : decode cL_isGraph 211 = .ok (.astore 5, 2) := by decide +kernel
theorem dL_isGraph_213 : decode cL_isGraph 213 = .ok (.iconst 0, 1) := by decide +kernel
theorem dL_isGraph_214 : decode cL_isGraph 214 = .ok (.istore 6, 2) := by decide +kernel
theorem dL_isGraph_216 : decode cL_isGraph 216 = .ok (.iload 6, 2) := by decide +kernel
theorem dL_isGraph_218 : decode cL_isGraph 218 = .ok (.aload_n 0, 1) := by decide +kernel
theorem dL_isGraph_219 : decode cL_isGraph 219 = .ok (.getfield 75, 3) := by decide +kernel
theorem dL_isGraph_222 : decode cL_isGraph 222 = .ok (.if_icmp .ge 16, 3) := by decide +kernel
theorem dL_isGraph_225 : decode cL_isGraph 225 = .ok (.aload 5, 2) := by decide +kernel
theorem dL_isGraph_227 : decode cL_isGraph 227 = .ok (.iload 6, 2) := by decide +kernel
theorem dL_isGraph_229 : decode cL_isGraph 229 = .ok (.iload 6, 2) := by decide +kernel
theorem dL_isGraph_231 : decode cL_isGraph 231 = .ok (.iastore, 1) := by decide +kernel
theorem dL_isGraph_232 : decode cL_isGraph 232 = .ok (.iinc 6 1, 3) := by decide +kernel
theorem dL_isGraph_235 : decode cL_isGraph 235 = .ok (.goto (-19), 3) := by decide +kernel
theorem dL_isGraph_238 : decode cL_isGraph 238 = .ok (.iconst 0, 1) := by decide +kernel
theorem dL_isGraph_239 : decode cL_isGraph 239 = .ok (.istore 6, 2) := by decide +kernel
theorem dL_isGraph_241 : decode cL_isGraph 241 = .ok (.iload 6, 2) := by decide +kernel
theorem dL_isGraph_243 : decode cL_isGraph 243 = .ok (.aload_n 0, 1) := by decide +kernel
theorem dL_isGraph_244 : decode cL_isGraph 244 = .ok (.getfield 75, 3) := by decide +kernel
theorem dL_isGraph_247 : decode cL_isGraph 247 = .ok (.if_icmp .ge 74, 3) := by decide +kernel
theorem dL_isGraph_250 : decode cL_isGraph 250 = .ok (.iconst 0, 1) := by decide +kernel
theorem dL_isGraph_251 : decode cL_isGraph 251 = .ok (.istore 7, 2) := by decide +kernel
theorem dL_isGraph_253 : decode cL_isGraph 253 = .ok (.iload 7, 2) := by decide +kernel
theorem dL_isGraph_255 : decode cL_isGraph 255 = .ok (.aload_n 0, 1) := by decide +kernel
theorem dL_isGraph_256 : decode cL_isGraph 256 = .ok (.getfield 75, 3) := by decide +kernel
theorem dL_isGraph_259 : decode cL_isGraph 259 = .ok (.if_icmp .ge 56, 3) := by decide +kernel
theorem dL_isGraph_262 : decode cL_isGraph 262 = .ok (.iconst 0, 1) := by decide +kernel
theorem dL_isGraph_263 : decode cL_isGraph 263 = .ok (.istore 8, 2) := by decide +kernel
theorem dL_isGraph_265 : decode cL_isGraph 265 = .ok (.iload 8, 2) := by decide +kernel
theorem dL_isGraph_267 : decode cL_isGraph 267 = .ok (.aload_n 0, 1) := by decide +kernel
theorem dL_isGraph_268 : decode cL_isGraph 268 = .ok (.getfield 75, 3) := by decide +kernel
theorem dL_isGraph_271 : decode cL_isGraph 271 = .ok (.if_icmp .ge 38, 3) := by decide +kernel
theorem dL_isGraph_274 : decode cL_isGraph 274 = .ok (.aload_n 0, 1) := by decide +kernel
theorem dL_isGraph_275 : decode cL_isGraph 275 = .ok (.iload 7, 2) := by decide +kernel
theorem dL_isGraph_277 : decode cL_isGraph 277 = .ok (.iload 8, 2) := by decide +kernel
theorem dL_isGraph_279 : decode cL_isGraph 279 = .ok (.invokevirtual 134, 3) := by decide +kernel
theorem dL_isGraph_282 : decode cL_isGraph 282 = .ok (.ifCond .le 21, 3) := by decide +kernel
theorem dL_isGraph_285 : decode cL_isGraph 285 = .ok (.aload 5, 2) := by decide +kernel
theorem dL_isGraph_287 : decode cL_isGraph 287 = .ok (.iload 7, 2) := by decide +kernel
theorem dL_isGraph_289 : decode cL_isGraph 289 = .ok (.aload 5, 2) := by decide +kernel
theorem dL_isGraph_291 : decode cL_isGraph 291 = .ok (.iload 7, 2) := by decide +kernel
theorem dL_isGraph_293 : decode cL_isGraph 293 = .ok (.iaload, 1) := by decide +kernel
theorem dL_isGraph_294 : decode cL_isGraph 294 = .ok (.aload 5, 2) := by decide +kernel
theorem dL_isGraph_296 : decode cL_isGraph 296 = .ok (.iload 8, 2) := by decide +kernel
theorem dL_isGraph_298 : decode cL_isGraph 298 = .ok (.iaload, 1) := by decide +kernel
theorem dL_isGraph_299 : decode cL_isGraph 299 = .ok (.invokestatic 126, 3) := by decide +kernel
theorem dL_isGraph_302 : decode cL_isGraph 302 = .ok (.iastore, 1) := by decide +kernel
theorem dL_isGraph_303 : decode cL_isGraph 303 = .ok (.iinc 8 1, 3) := by decide +kernel
theorem dL_isGraph_306 : decode cL_isGraph 306 = .ok (.goto (-41), 3) := by decide +kernel
theorem dL_isGraph_309 : decode cL_isGraph 309 = .ok (.iinc 7 1, 3) := by decide +kernel
theorem dL_isGraph_312 : decode cL_isGraph 312 = .ok (.goto (-59), 3) := by decide +kernel
theorem dL_isGraph_315 : decode cL_isGraph 315 = .ok (.iinc 6 1, 3) := by decide +kernel
theorem dL_isGraph_318 : decode cL_isGraph 318 = .ok (.goto (-77), 3) := by decide +kernel
theorem dL_isGraph_321 : decode cL_isGraph 321 = .ok (.iconst 0, 1) := by decide +kernel
theorem dL_isGraph_322 : decode cL_isGraph 322 = .ok (.istore 6, 2) := by decide +kernel
theorem dL_isGraph_324 : decode cL_isGraph 324 = .ok (.iconst 0, 1) := by decide +kernel
theorem dL_isGraph_325 : decode cL_isGraph 325 = .ok (.istore 7, 2) := by decide +kernel
theorem dL_isGraph_327 : decode cL_isGraph 327 = .ok (.iload 7, 2) := by decide +kernel
theorem dL_isGraph_329 : decode cL_isGraph 329 = .ok (.aload_n 0, 1) := by decide +kernel
theorem dL_isGraph_330 : decode cL_isGraph 330 = .ok (.getfield 75, 3) := by decide +kernel
theorem dL_isGraph_333 : decode cL_isGraph 333 = .ok (.if_icmp .ge 29, 3) := by decide +kernel
theorem dL_isGraph_336 : decode cL_isGraph 336 = .ok (.iload 6, 2) := by decide +kernel
theorem dL_isGraph_338 : decode cL_isGraph 338 = .ok (.aload 5, 2) := by decide +kernel
theorem dL_isGraph_340 : decode cL_isGraph 340 = .ok (.iload 7, 2) := by decide +kernel
theorem dL_isGraph_342 : decode cL_isGraph 342 = .ok (.iaload, 1) := by decide +kernel
theorem dL_isGraph_343 : decode cL_isGraph 343 = .ok (.iload 7, 2) := by decide +kernel
theorem dL_isGraph_345 : decode cL_isGraph 345 = .ok (.if_icmp .ne 7, 3) := by decide +kernel
theorem dL_isGraph_348 : decode cL_isGraph 348 = .ok (.iconst 1, 1) := by decide +kernel
theorem dL_isGraph_349 : decode cL_isGraph 349 = .ok (.goto 4, 3) := by decide +kernel
theorem dL_isGraph_352 : decode cL_isGraph 352 = .ok (.iconst 0, 1) := by decide +kernel
theorem dL_isGraph_353 : decode cL_isGraph 353 = .ok (.iadd, 1) := by decide +kernel
theorem dL_isGraph_354 : decode cL_isGraph 354 = .ok (.istore 6, 2) := by decide +kernel
theorem dL_isGraph_356 : decode cL_isGraph 356 = .ok (.iinc 7 1, 3) := by decide +kernel
theorem dL_isGraph_359 : decode cL_isGraph 359 = .ok (.goto (-32), 3) := by decide +kernel
theorem dL_isGraph_362 : decode cL_isGraph 362 = .ok (.aload_n 1, 1) := by decide +kernel
theorem dL_isGraph_363 : decode cL_isGraph 363 = .ok (.invokevirtual 147, 3) := by decide +kernel
theorem dL_isGraph_366 : decode cL_isGraph 366 = .ok (.iload_n 2, 1) := by decide +kernel
theorem dL_isGraph_367 : decode cL_isGraph 367 = .ok (.if_icmp .ne 76, 3) := by decide +kernel
theorem dL_isGraph_370 : decode cL_isGraph 370 = .ok (.aload_n 1, 1) := by decide +kernel
theorem dL_isGraph_371 : decode cL_isGraph 371 = .ok (.invokevirtual 150, 3) := by decide +kernel
theorem dL_isGraph_374 : decode cL_isGraph 374 = .ok (.iload_n 2, 1) := by decide +kernel
theorem dL_isGraph_375 : decode cL_isGraph 375 = .ok (.iload_n 3, 1) := by decide +kernel
theorem dL_isGraph_376 : decode cL_isGraph 376 = .ok (.iadd, 1) := by decide +kernel
theorem dL_isGraph_377 : decode cL_isGraph 377 = .ok (.if_icmp .ne 66, 3) := by decide +kernel
theorem dL_isGraph_380 : decode cL_isGraph 380 = .ok (.aload_n 1, 1) := by decide +kernel
theorem dL_isGraph_381 : decode cL_isGraph 381 = .ok (.invokevirtual 153, 3) := by decide +kernel
theorem dL_isGraph_384 : decode cL_isGraph 384 = .ok (.iload_n 2, 1) := by decide +kernel
theorem dL_isGraph_385 : decode cL_isGraph 385 = .ok (.iload_n 3, 1) := by decide +kernel
theorem dL_isGraph_386 : decode cL_isGraph 386 = .ok (.iadd, 1) := by decide +kernel
theorem dL_isGraph_387 : decode cL_isGraph 387 = .ok (.ifCond .ne 7, 3) := by decide +kernel
theorem dL_isGraph_390 : decode cL_isGraph 390 = .ok (.iconst 1, 1) := by decide +kernel
theorem dL_isGraph_391 : decode cL_isGraph 391 = .ok (.goto 4, 3) := by decide +kernel
theorem dL_isGraph_394 : decode cL_isGraph 394 = .ok (.iconst 0, 1) := by decide +kernel
theorem dL_isGraph_395 : decode cL_isGraph 395 = .ok (.if_icmp .ne 48, 3) := by decide +kernel
theorem dL_isGraph_398 : decode cL_isGraph 398 = .ok (.aload_n 1, 1) := by decide +kernel
theorem dL_isGraph_399 : decode cL_isGraph 399 = .ok (.invokevirtual 157, 3) := by decide +kernel
theorem dL_isGraph_402 : decode cL_isGraph 402 = .ok (.iload 4, 2) := by decide +kernel
theorem dL_isGraph_404 : decode cL_isGraph 404 = .ok (.if_icmp .ne 39, 3) := by decide +kernel
theorem dL_isGraph_407 : decode cL_isGraph 407 = .ok (.aload_n 1, 1) := by decide +kernel
theorem dL_isGraph_408 : decode cL_isGraph 408 = .ok (.invokevirtual 160, 3) := by decide +kernel
theorem dL_isGraph_411 : decode cL_isGraph 411 = .ok (.iload 6, 2) := by decide +kernel
theorem dL_isGraph_413 : decode cL_isGraph 413 = .ok (.if_icmp .ne 30, 3) := by decide +kernel
theorem dL_isGraph_416 : decode cL_isGraph 416 = .ok (.aload_n 1, 1) := by decide +kernel
theorem dL_isGraph_417 : decode cL_isGraph 417 = .ok (.invokevirtual 163, 3) := by decide +kernel
theorem dL_isGraph_420 : decode cL_isGraph 420 = .ok (.ldc2_w 167, 3) := by decide +kernel
theorem dL_isGraph_423 : decode cL_isGraph 423 = .ok (.aload_n 0, 1) := by decide +kernel
theorem dL_isGraph_424 : decode cL_isGraph 424 = .ok (.invokevirtual 66, 3) := by decide +kernel
theorem dL_isGraph_427 : decode cL_isGraph 427 = .ok (.i2d, 1) := by decide +kernel
theorem dL_isGraph_428 : decode cL_isGraph 428 = .ok (.dmul, 1) := by decide +kernel
theorem dL_isGraph_429 : decode cL_isGraph 429 = .ok (.aload_n 0, 1) := by decide +kernel
theorem dL_isGraph_430 : decode cL_isGraph 430 = .ok (.getfield 75, 3) := by decide +kernel
theorem dL_isGraph_433 : decode cL_isGraph 433 = .ok (.i2d, 1) := by decide +kernel
theorem dL_isGraph_434 : decode cL_isGraph 434 = .ok (.ddiv, 1) := by decide +kernel
theorem dL_isGraph_435 : decode cL_isGraph 435 = .ok (.dcmp .l, 1) := by decide +kernel
theorem dL_isGraph_436 : decode cL_isGraph 436 = .ok (.ifCond .ne 7, 3) := by decide +kernel
theorem dL_isGraph_439 : decode cL_isGraph 439 = .ok (.iconst 1, 1) := by decide +kernel
theorem dL_isGraph_440 : decode cL_isGraph 440 = .ok (.goto 4, 3) := by decide +kernel
theorem dL_isGraph_443 : decode cL_isGraph 443 = .ok (.iconst 0, 1) := by decide +kernel
theorem dL_isGraph_444 : decode cL_isGraph 444 = .ok (.ireturn, 1) := by decide +kernel
theorem dL_isSequence_0 : decode cL_isSequence 0 = .ok (.aload_n 0, 1) := by decide +kernel
theorem dL_isSequence_1 : decode cL_isSequence 1 = .ok (.getfield 75, 3) := by decide +kernel
theorem dL_isSequence_4 : decode cL_isSequence 4 = .ok (.newarray .int, 2) := by decide +kernel
theorem dL_isSequence_6 : decode cL_isSequence 6 = .ok (.astore_n 2, 1) := by decide +kernel
theorem dL_isSequence_7 : decode cL_isSequence 7 = .ok (.iconst 0, 1) := by decide +kernel
theorem dL_isSequence_8 : decode cL_isSequence 8 = .ok (.istore_n 3, 1) := by decide +kernel
theorem dL_isSequence_9 : decode cL_isSequence 9 = .ok (.iload_n 3, 1) := by decide +kernel
theorem dL_isSequence_10 : decode cL_isSequence 10 = .ok (.aload_n 0, 1) := by decide +kernel
theorem dL_isSequence_11 : decode cL_isSequence 11 = .ok (.getfield 75, 3) := by decide +kernel
theorem dL_isSequence_14 : decode cL_isSequence 14 = .ok (.if_icmp .ge 56, 3) := by decide +kernel
theorem dL_isSequence_17 : decode cL_isSequence 17 = .ok (.iload_n 3, 1) := by decide +kernel
theorem dL_isSequence_18 : decode cL_isSequence 18 = .ok (.istore 4, 2) := by decide +kernel
theorem dL_isSequence_20 : decode cL_isSequence 20 = .ok (.iload 4, 2) := by decide +kernel
theorem dL_isSequence_22 : decode cL_isSequence 22 = .ok (.ifCond .le 33, 3) := by decide +kernel
theorem dL_isSequence_25 : decode cL_isSequence 25 = .ok (.aload_n 2, 1) := by decide +kernel
theorem dL_isSequence_26 : decode cL_isSequence 26 = .ok (.iload 4, 2) := by decide +kernel
theorem dL_isSequence_28 : decode cL_isSequence 28 = .ok (.iconst 1, 1) := by decide +kernel
theorem dL_isSequence_29 : decode cL_isSequence 29 = .ok (.isub, 1) := by decide +kernel
theorem dL_isSequence_30 : decode cL_isSequence 30 = .ok (.iaload, 1) := by decide +kernel
theorem dL_isSequence_31 : decode cL_isSequence 31 = .ok (.aload_n 0, 1) := by decide +kernel
theorem dL_isSequence_32 : decode cL_isSequence 32 = .ok (.iload_n 3, 1) := by decide +kernel
theorem dL_isSequence_33 : decode cL_isSequence 33 = .ok (.invokevirtual 141, 3) := by decide +kernel
theorem dL_isSequence_36 : decode cL_isSequence 36 = .ok (.if_icmp .ge 19, 3) := by decide +kernel
theorem dL_isSequence_39 : decode cL_isSequence 39 = .ok (.aload_n 2, 1) := by decide +kernel
theorem dL_isSequence_40 : decode cL_isSequence 40 = .ok (.iload 4, 2) := by decide +kernel
theorem dL_isSequence_42 : decode cL_isSequence 42 = .ok (.aload_n 2, 1) := by decide +kernel
theorem dL_isSequence_43 : decode cL_isSequence 43 = .ok (.iload 4, 2) := by decide +kernel
theorem dL_isSequence_45 : decode cL_isSequence 45 = .ok (.iconst 1, 1) := by decide +kernel
theorem dL_isSequence_46 : decode cL_isSequence 46 = .ok (.isub, 1) := by decide +kernel
theorem dL_isSequence_47 : decode cL_isSequence 47 = .ok (.iaload, 1) := by decide +kernel
theorem dL_isSequence_48 : decode cL_isSequence 48 = .ok (.iastore, 1) := by decide +kernel
theorem dL_isSequence_49 : decode cL_isSequence 49 = .ok (.iinc 4 (-1), 3) := by decide +kernel
theorem dL_isSequence_52 : decode cL_isSequence 52 = .ok (.goto (-32), 3) := by decide +kernel
theorem dL_isSequence_55 : decode cL_isSequence 55 = .ok (.aload_n 2, 1) := by decide +kernel
theorem dL_isSequence_56 : decode cL_isSequence 56 = .ok (.iload 4, 2) := by decide +kernel
theorem dL_isSequence_58 : decode cL_isSequence 58 = .ok (.aload_n 0, 1) := by decide +kernel
theorem dL_isSequence_59 : decode cL_isSequence 59 = .ok (.iload_n 3, 1) := by decide +kernel
theorem dL_isSequence_60 : decode cL_isSequence 60 = .ok (.invokevirtual 141, 3) := by decide +kernel
theorem dL_isSequence_63 : decode cL_isSequence 63 = .ok (.iastore, 1) := by decide +kernel
theorem dL_isSequence_64 : decode cL_isSequence 64 = .ok (.iinc 3 1, 3) := by decide +kernel
theorem dL_isSequence_67 : decode cL_isSequence 67 = .ok (.goto (-58), 3) := by decide +kernel
theorem dL_isSequence_70 : decode cL_isSequence 70 = .ok (.iconst 1, 1) := by decide +kernel
theorem dL_isSequence_71 : decode cL_isSequence 71 = .ok (.istore_n 3, 1) := by decide +kernel
theorem dL_isSequence_72 : decode cL_isSequence 72 = .ok (.iconst 1, 1) := by decide +kernel
theorem dL_isSequence_73 : decode cL_isSequence 73 = .ok (.istore 4, 2) := by decide +kernel
theorem dL_isSequence_75 : decode cL_isSequence 75 = .ok (.iload 4, 2) := by decide +kernel
theorem dL_isSequence_77 : decode cL_isSequence 77 = .ok (.aload_n 0, 1) := by decide +kernel
theorem dL_isSequence_78 : decode cL_isSequence 78 = .ok (.getfield 75, 3) := by decide +kernel
theorem dL_isSequence_81 : decode cL_isSequence 81 = .ok (.if_icmp .gt 110, 3) := by decide +kernel
theorem dL_isSequence_84 : decode cL_isSequence 84 = .ok (.iload 4, 2) := by decide +kernel
theorem dL_isSequence_86 : decode cL_isSequence 86 = .ok (.iload 4, 2) := by decide +kernel
theorem dL_isSequence_88 : decode cL_isSequence 88 = .ok (.iconst 1, 1) := by decide +kernel
theorem dL_isSequence_89 : decode cL_isSequence 89 = .ok (.isub, 1) := by decide +kernel
theorem dL_isSequence_90 : decode cL_isSequence 90 = .ok (.imul, 1) := by decide +kernel
theorem dL_isSequence_91 : decode cL_isSequence 91 = .ok (.istore 5, 2) := by decide +kernel
theorem dL_isSequence_93 : decode cL_isSequence 93 = .ok (.iconst 0, 1) := by decide +kernel
theorem dL_isSequence_94 : decode cL_isSequence 94 = .ok (.istore 6, 2) := by decide +kernel
theorem dL_isSequence_96 : decode cL_isSequence 96 = .ok (.iload 6, 2) := by decide +kernel
theorem dL_isSequence_98 : decode cL_isSequence 98 = .ok (.aload_n 0, 1) := by decide +kernel
theorem dL_isSequence_99 : decode cL_isSequence 99 = .ok (.getfield 75, 3) := by decide +kernel
theorem dL_isSequence_102 : decode cL_isSequence 102 = .ok (.if_icmp .ge 38, 3) := by decide +kernel
theorem dL_isSequence_105 : decode cL_isSequence 105 = .ok (.iload 5, 2) := by decide +kernel
theorem dL_isSequence_107 : decode cL_isSequence 107 = .ok (.iload 6, 2) := by decide +kernel
theorem dL_isSequence_109 : decode cL_isSequence 109 = .ok (.iload 4, 2) := by decide +kernel
theorem dL_isSequence_111 : decode cL_isSequence 111 = .ok (.if_icmp .ge 11, 3) := by decide +kernel
theorem dL_isSequence_114 : decode cL_isSequence 114 = .ok (.aload_n 2, 1) := by decide +kernel
theorem dL_isSequence_115 : decode cL_isSequence 115 = .ok (.iload 6, 2) := by decide +kernel
theorem dL_isSequence_117 : decode cL_isSequence 117 = .ok (.iaload, 1) := by decide +kernel
theorem dL_isSequence_118 : decode cL_isSequence 118 = .ok (.ineg, 1) := by decide +kernel
theorem dL_isSequence_119 : decode cL_isSequence 119 = .ok (.goto 12, 3) := by decide +kernel
theorem dL_isSequence_122 : decode cL_isSequence 122 = .ok (.iload 4, 2) := by decide +kernel
theorem dL_isSequence_124 : decode cL_isSequence 124 = .ok (.aload_n 2, 1) := by decide +kernel
theorem dL_isSequence_125 : decode cL_isSequence 125 = .ok (.iload 6, 2) := by decide +kernel
theorem dL_isSequence_127 : decode cL_isSequence 127 = .ok (.iaload, 1) := by decide +kernel
theorem dL_isSequence_128 : decode cL_isSequence 128 = .ok (.invokestatic 126, 3) := by decide +kernel
theorem dL_isSequence_131 : decode cL_isSequence 131 = .ok (.iadd, 1) := by decide +kernel
theorem dL_isSequence_132 : decode cL_isSequence 132 = .ok (.istore 5, 2) := by decide +kernel
theorem dL_isSequence_134 : decode cL_isSequence 134 = .ok (.iinc 6 1, 3) := by decide +kernel
theorem dL_isSequence_137 : decode cL_isSequence 137 = .ok (.goto (-41), 3) := by decide +kernel
theorem dL_isSequence_140 : decode cL_isSequence 140 = .ok (.aload_n 1, 1) := by decide +kernel
theorem dL_isSequence_141 : decode cL_isSequence 141 = .ok (.iload 4, 2) := by decide +kernel
theorem dL_isSequence_143 : decode cL_isSequence 143 = .ok (.iconst 1, 1) := by decide +kernel
theorem dL_isSequence_144 : decode cL_isSequence 144 = .ok (.isub, 1) := by decide +kernel
theorem dL_isSequence_145 : decode cL_isSequence 145 = .ok (.invokevirtual 169, 3) := by decide +kernel
theorem dL_isSequence_148 : decode cL_isSequence 148 = .ok (.aload_n 2, 1) := by decide +kernel
theorem dL_isSequence_149 : decode cL_isSequence 149 = .ok (.iload 4, 2) := by decide +kernel
theorem dL_isSequence_151 : decode cL_isSequence 151 = .ok (.iconst 1, 1) := by decide +kernel
theorem dL_isSequence_152 : decode cL_isSequence 152 = .ok (.isub, 1) := by decide +kernel
theorem dL_isSequence_153 : decode cL_isSequence 153 = .ok (.iaload, 1) := by decide +kernel
theorem dL_isSequence_154 : decode cL_isSequence 154 = .ok (.if_icmp .ne 14, 3) := by decide +kernel
theorem dL_isSequence_157 : decode cL_isSequence 157 = .ok (.aload_n 1, 1) := by decide +kernel
theorem dL_isSequence_158 : decode cL_isSequence 158 = .ok (.iload 4, 2) := by decide +kernel
theorem dL_isSequence_160 : decode cL_isSequence 160 = .ok (.invokevirtual 172, 3) := by decide +kernel
theorem dL_isSequence_163 : decode cL_isSequence 163 = .ok (.iload 5, 2) := by decide +kernel
theorem dL_isSequence_165 : decode cL_isSequence 165 = .ok (.if_icmp .eq 5, 3) := by decide +kernel
theorem dL_isSequence_168 : decode cL_isSequence 168 = .ok (.iconst 0, 1) := by decide +kernel
theorem dL_isSequence_169 : decode cL_isSequence 169 = .ok (.ireturn, 1) := by decide +kernel
theorem dL_isSequence_170 : decode cL_isSequence 170 = .ok (.iload_n 3, 1) := by decide +kernel
theorem dL_isSequence_171 : decode cL_isSequence 171 = .ok (.ifCond .eq 12, 3) := by decide +kernel
theorem dL_isSequence_174 : decode cL_isSequence 174 = .ok (.iload 5, 2) := by decide +kernel
theorem dL_isSequence_176 : decode cL_isSequence 176 = .ok (.ifCond .lt 7, 3) := by decide +kernel
theorem dL_isSequence_179 : decode cL_isSequence 179 = .ok (.iconst 1, 1) := by decide +kernel
theorem dL_isSequence_180 : decode cL_isSequence 180 = .ok (.goto 4, 3) := by decide +kernel
theorem dL_isSequence_183 : decode cL_isSequence 183 = .ok (.iconst 0, 1) := by decide +kernel
theorem dL_isSequence_184 : decode cL_isSequence 184 = .ok (.istore_n 3, 1) := by decide +kernel
theorem dL_isSequence_185 : decode cL_isSequence 185 = .ok (.iinc 4 1, 3) := by decide +kernel
theorem dL_isSequence_188 : decode cL_isSequence 188 = .ok (.goto (-113), 3) := by decide +kernel
theorem dL_isSequence_191 : decode cL_isSequence 191 = .ok (.aload_n 1, 1) := by decide +kernel
theorem dL_isSequence_192 : decode cL_isSequence 192 = .ok (.iconst 0, 1) := by decide +kernel
theorem dL_isSequence_193 : decode cL_isSequence 193 = .ok (.invokevirtual 175, 3) := by decide +kernel
theorem dL_isSequence_196 : decode cL_isSequence 196 = .ok (.ifCond .eq 45, 3) := by decide +kernel
theorem dL_isSequence_199 : decode cL_isSequence 199 = .ok (.aload_n 1, 1) := by decide +kernel
theorem dL_isSequence_200 : decode cL_isSequence 200 = .ok (.iconst 1, 1) := by decide +kernel
theorem dL_isSequence_201 : decode cL_isSequence 201 = .ok (.invokevirtual 175, 3) := by decide +kernel
theorem dL_isSequence_204 : decode cL_isSequence 204 = .ok (.aload_n 2, 1) := by decide +kernel
theorem dL_isSequence_205 : decode cL_isSequence 205 = .ok (.iconst 0, 1) := by decide +kernel
theorem dL_isSequence_206 : decode cL_isSequence 206 = .ok (.iaload, 1) := by decide +kernel
theorem dL_isSequence_207 : decode cL_isSequence 207 = .ok (.iconst 2, 1) := by decide +kernel
theorem dL_isSequence_208 : decode cL_isSequence 208 = .ok (.aload_n 0, 1) := by decide +kernel
theorem dL_isSequence_209 : decode cL_isSequence 209 = .ok (.invokevirtual 66, 3) := by decide +kernel
theorem dL_isSequence_212 : decode cL_isSequence 212 = .ok (.imul, 1) := by decide +kernel
theorem dL_isSequence_213 : decode cL_isSequence 213 = .ok (.aload_n 2, 1) := by decide +kernel
theorem dL_isSequence_214 : decode cL_isSequence 214 = .ok (.iconst 0, 1) := by decide +kernel
theorem dL_isSequence_215 : decode cL_isSequence 215 = .ok (.iaload, 1) := by decide +kernel
theorem dL_isSequence_216 : decode cL_isSequence 216 = .ok (.isub, 1) := by decide +kernel
theorem dL_isSequence_217 : decode cL_isSequence 217 = .ok (.if_icmp .gt 7, 3) := by decide +kernel
theorem dL_isSequence_220 : decode cL_isSequence 220 = .ok (.iconst 1, 1) := by decide +kernel
theorem dL_isSequence_221 : decode cL_isSequence 221 = .ok (.goto 4, 3) := by decide +kernel
theorem dL_isSequence_224 : decode cL_isSequence 224 = .ok (.iconst 0, 1) := by decide +kernel
theorem dL_isSequence_225 : decode cL_isSequence 225 = .ok (.if_icmp .ne 16, 3) := by decide +kernel
theorem dL_isSequence_228 : decode cL_isSequence 228 = .ok (.aload_n 1, 1) := by decide +kernel
theorem dL_isSequence_229 : decode cL_isSequence 229 = .ok (.iconst 2, 1) := by decide +kernel
theorem dL_isSequence_230 : decode cL_isSequence 230 = .ok (.invokevirtual 175, 3) := by decide +kernel
theorem dL_isSequence_233 : decode cL_isSequence 233 = .ok (.iload_n 3, 1) := by decide +kernel
theorem dL_isSequence_234 : decode cL_isSequence 234 = .ok (.if_icmp .ne 7, 3) := by decide +kernel
theorem dL_isSequence_237 : decode cL_isSequence 237 = .ok (.iconst 1, 1) := by decide +kernel
theorem dL_isSequence_238 : decode cL_isSequence 238 = .ok (.goto 4, 3) := by decide +kernel
theorem dL_isSequence_241 : decode cL_isSequence 241 = .ok (.iconst 0, 1) := by decide +kernel
theorem dL_isSequence_242 : decode cL_isSequence 242 = .ok (.ireturn, 1) := by decide +kernel
theorem dL_isSame_0 : decode cL_isSame 0 = .ok (.iload_n 0, 1) := by decide +kernel
theorem dL_isSame_1 : decode cL_isSame 1 = .ok (.iload_n 1, 1) := by decide +kernel
theorem dL_isSame_2 : decode cL_isSame 2 = .ok (.invokestatic 126, 3) := by decide +kernel
theorem dL_isSame_5 : decode cL_isSame 5 = .ok (.iload_n 2, 1) := by decide +kernel
theorem dL_isSame_6 : decode cL_isSame 6 = .ok (.iload_n 3, 1) := by decide +kernel
theorem dL_isSame_7 : decode cL_isSame 7 = .ok (.invokestatic 126, 3) := by decide +kernel
theorem dL_isSame_10 : decode cL_isSame 10 = .ok (.if_icmp .ne 20, 3) := by decide +kernel
theorem dL_isSame_13 : decode cL_isSame 13 = .ok (.iload_n 0, 1) := by decide +kernel
theorem dL_isSame_14 : decode cL_isSame 14 = .ok (.iload_n 1, 1) := by decide +kernel
theorem dL_isSame_15 : decode cL_isSame 15 = .ok (.invokestatic 131, 3) := by decide +kernel
theorem dL_isSame_18 : decode cL_isSame 18 = .ok (.iload_n 2, 1) := by decide +kernel
theorem dL_isSame_19 : decode cL_isSame 19 = .ok (.iload_n 3, 1) := by decide +kernel
theorem dL_isSame_20 : decode cL_isSame 20 = .ok (.invokestatic 131, 3) := by decide +kernel
theorem dL_isSame_23 : decode cL_isSame 23 = .ok (.if_icmp .ne 7, 3) := by decide +kernel
theorem dL_isSame_26 : decode cL_isSame 26 = .ok (.iconst 1, 1) := by decide +kernel
theorem dL_isSame_27 : decode cL_isSame 27 = .ok (.goto 4, 3) := by decide +kernel
theorem dL_isSame_30 : decode cL_isSame 30 = .ok (.iconst 0, 1) := by decide +kernel
theorem dL_isSame_31 : decode cL_isSame 31 = .ok (.ireturn, 1) := by decide +kernel
theorem dL_isReason_0 : decode cL_isReason 0 = .ok (.aload_n 0, 1) := by decide +kernel
theorem dL_isReason_1 : decode cL_isReason 1 = .ok (.aload_n 0, 1) := by decide +kernel
theorem dL_isReason_2 : decode cL_isReason 2 = .ok (.getfield 75, 3) := by decide +kernel
theorem dL_isReason_5 : decode cL_isReason 5 = .ok (.invokevirtual 54, 3) := by decide +kernel
theorem dL_isReason_8 : decode cL_isReason 8 = .ok (.istore_n 2, 1) := by decide +kernel
theorem dL_isReason_9 : decode cL_isReason 9 = .ok (.aload_n 0, 1) := by decide +kernel
theorem dL_isReason_10 : decode cL_isReason 10 = .ok (.aload_n 0, 1) := by decide +kernel
theorem dL_isReason_11 : decode cL_isReason 11 = .ok (.getfield 75, 3) := by decide +kernel
theorem dL_isReason_14 : decode cL_isReason 14 = .ok (.invokevirtual 54, 3) := by decide +kernel
theorem dL_isReason_17 : decode cL_isReason 17 = .ok (.istore_n 3, 1) := by decide +kernel
theorem dL_isReason_18 : decode cL_isReason 18 = .ok (.aload_n 0, 1) := by decide +kernel
theorem dL_isReason_19 : decode cL_isReason 19 = .ok (.aload_n 0, 1) := by decide +kernel
theorem dL_isReason_20 : decode cL_isReason 20 = .ok (.getfield 75, 3) := by decide +kernel
theorem dL_isReason_23 : decode cL_isReason 23 = .ok (.invokevirtual 54, 3) := by decide +kernel
theorem dL_isReason_26 : decode cL_isReason 26 = .ok (.istore 4, 2) := by decide +kernel
theorem dL_isReason_28 : decode cL_isReason 28 = .ok (.aload_n 0, 1) := by decide +kernel
theorem dL_isReason_29 : decode cL_isReason 29 = .ok (.aload_n 0, 1) := by decide +kernel
theorem dL_isReason_30 : decode cL_isReason 30 = .ok (.getfield 75, 3) := by decide +kernel
theorem dL_isReason_33 : decode cL_isReason 33 = .ok (.invokevirtual 54, 3) := by decide +kernel
theorem dL_isReason_36 : decode cL_isReason 36 = .ok (.istore 5, 2) := by decide +kernel
theorem dL_isReason_38 : decode cL_isReason 38 = .ok (.aload_n 0, 1) := by decide +kernel
theorem dL_isReason_39 : decode cL_isReason 39 = .ok (.iload 4, 2) := by decide +kernel
theorem dL_isReason_41 : decode cL_isReason 41 = .ok (.iload 5, 2) := by decide +kernel
theorem dL_isReason_43 : decode cL_isReason 43 = .ok (.invokevirtual 134, 3) := by decide +kernel
theorem dL_isReason_46 : decode cL_isReason 46 = .ok (.iload_n 2, 1) := by decide +kernel
theorem dL_isReason_47 : decode cL_isReason 47 = .ok (.iload_n 3, 1) := by decide +kernel
theorem dL_isReason_48 : decode cL_isReason 48 = .ok (.iload 4, 2) := by decide +kernel
theorem dL_isReason_50 : decode cL_isReason 50 = .ok (.iload 5, 2) := by decide +kernel
theorem dL_isReason_52 : decode cL_isReason 52 = .ok (.invokestatic 179, 3) := by decide +kernel
theorem dL_isReason_55 : decode cL_isReason 55 = .ok (.ifCond .eq 7, 3) := by decide +kernel
theorem dL_isReason_58 : decode cL_isReason 58 = .ok (.iconst 1, 1) := by decide +kernel
theorem dL_isReason_59 : decode cL_isReason 59 = .ok (.goto 4, 3) := by decide +kernel
theorem dL_isReason_62 : decode cL_isReason 62 = .ok (.iconst 0, 1) := by decide +kernel
theorem dL_isReason_63 : decode cL_isReason 63 = .ok (.isub, 1) := by decide +kernel
theorem dL_isReason_64 : decode cL_isReason 64 = .ok (.istore 6, 2) := by decide +kernel
theorem dL_isReason_66 : decode cL_isReason 66 = .ok (.aload_n 0, 1) := by decide +kernel
theorem dL_isReason_67 : decode cL_isReason 67 = .ok (.iload_n 2, 1) := by decide +kernel
theorem dL_isReason_68 : decode cL_isReason 68 = .ok (.iload 4, 2) := by decide +kernel
theorem dL_isReason_70 : decode cL_isReason 70 = .ok (.invokevirtual 134, 3) := by decide +kernel
theorem dL_isReason_73 : decode cL_isReason 73 = .ok (.iload_n 2, 1) := by decide +kernel
theorem dL_isReason_74 : decode cL_isReason 74 = .ok (.iload 4, 2) := by decide +kernel
theorem dL_isReason_76 : decode cL_isReason 76 = .ok (.iload_n 2, 1) := by decide +kernel
theorem dL_isReason_77 : decode cL_isReason 77 = .ok (.iload_n 3, 1) := by decide +kernel
theorem dL_isReason_78 : decode cL_isReason 78 = .ok (.invokestatic 179, 3) := by decide +kernel
theorem dL_isReason_81 : decode cL_isReason 81 = .ok (.ifCond .eq 7, 3) := by decide +kernel
theorem dL_isReason_84 : decode cL_isReason 84 = .ok (.iconst 1, 1) := by decide +kernel
theorem dL_isReason_85 : decode cL_isReason 85 = .ok (.goto 4, 3) := by decide +kernel
theorem dL_isReason_88 : decode cL_isReason 88 = .ok (.iconst 0, 1) := by decide +kernel
theorem dL_isReason_89 : decode cL_isReason 89 = .ok (.isub, 1) := by decide +kernel
theorem dL_isReason_90 : decode cL_isReason 90 = .ok (.iload_n 2, 1) := by decide +kernel
theorem dL_isReason_91 : decode cL_isReason 91 = .ok (.iload 4, 2) := by decide +kernel
theorem dL_isReason_93 : decode cL_isReason 93 = .ok (.iload 4, 2) := by decide +kernel
theorem dL_isReason_95 : decode cL_isReason 95 = .ok (.iload 5, 2) := by decide +kernel
theorem dL_isReason_97 : decode cL_isReason 97 = .ok (.invokestatic 179, 3) := by decide +kernel
theorem dL_isReason_100 : decode cL_isReason 100 = .ok (.ifCond .eq 7, 3) := by decide +kernel
theorem dL_isReason_103 : decode cL_isReason 103 = .ok (.iconst 1, 1) := by decide +kernel
theorem dL_isReason_104 : decode cL_isReason 104 = .ok (.goto 4, 3) := by decide +kernel
theorem dL_isReason_107 : decode cL_isReason 107 = .ok (.iconst 0, 1) := by decide +kernel
theorem dL_isReason_108 : decode cL_isReason 108 = .ok (.isub, 1) := by decide +kernel
theorem dL_isReason_109 : decode cL_isReason 109 = .ok (.istore 7, 2) := by decide +kernel
theorem dL_isReason_111 : decode cL_isReason 111 = .ok (.aload_n 0, 1) := by decide +kernel
theorem dL_isReason_112 : decode cL_isReason 112 = .ok (.iload_n 3, 1) := by decide +kernel
theorem dL_isReason_113 : decode cL_isReason 113 = .ok (.iload 5, 2) := by decide +kernel
theorem dL_isReason_115 : decode cL_isReason 115 = .ok (.invokevirtual 134, 3) := by decide +kernel
theorem dL_isReason_118 : decode cL_isReason 118 = .ok (.iload_n 3, 1) := by decide +kernel
theorem dL_isReason_119 : decode cL_isReason 119 = .ok (.iload 5, 2) := by decide +kernel
theorem dL_isReason_121 : decode cL_isReason 121 = .ok (.iload_n 2, 1) := by decide +kernel
theorem dL_isReason_122 : decode cL_isReason 122 = .ok (.iload_n 3, 1) := by decide +kernel
theorem dL_isReason_123 : decode cL_isReason 123 = .ok (.invokestatic 179, 3) := by decide +kernel
theorem dL_isReason_126 : decode cL_isReason 126 = .ok (.ifCond .eq 7, 3) := by decide +kernel
theorem dL_isReason_129 : decode cL_isReason 129 = .ok (.iconst 1, 1) := by decide +kernel
theorem dL_isReason_130 : decode cL_isReason 130 = .ok (.goto 4, 3) := by decide +kernel
theorem dL_isReason_133 : decode cL_isReason 133 = .ok (.iconst 0, 1) := by decide +kernel
theorem dL_isReason_134 : decode cL_isReason 134 = .ok (.isub, 1) := by decide +kernel
theorem dL_isReason_135 : decode cL_isReason 135 = .ok (.iload_n 3, 1) := by decide +kernel
theorem dL_isReason_136 : decode cL_isReason 136 = .ok (.iload 5, 2) := by decide +kernel
theorem dL_isReason_138 : decode cL_isReason 138 = .ok (.iload 4, 2) := by decide +kernel
theorem dL_isReason_140 : decode cL_isReason 140 = .ok (.iload 5, 2) := by decide +kernel
theorem dL_isReason_142 : decode cL_isReason 142 = .ok (.invokestatic 179, 3) := by decide +kernel
theorem dL_isReason_145 : decode cL_isReason 145 = .ok (.ifCond .eq 7, 3) := by decide +kernel
theorem dL_isReason_148 : decode cL_isReason 148 = .ok (.iconst 1, 1) := by decide +kernel
theorem dL_isReason_149 : decode cL_isReason 149 = .ok (.goto 4, 3) := by decide +kernel
theorem dL_isReason_152 : decode cL_isReason 152 = .ok (.iconst 0, 1) := by decide +kernel
theorem dL_isReason_153 : decode cL_isReason 153 = .ok (.isub, 1) := by decide +kernel
theorem dL_isReason_154 : decode cL_isReason 154 = .ok (.istore 8, 2) := by decide +kernel
theorem dL_isReason_156 : decode cL_isReason 156 = .ok (.aload_n 0, 1) := by decide +kernel
theorem dL_isReason_157 : decode cL_isReason 157 = .ok (.iload_n 2, 1) := by decide +kernel
theorem dL_isReason_158 : decode cL_isReason 158 = .ok (.iload_n 3, 1) := by decide +kernel
theorem dL_isReason_159 : decode cL_isReason 159 = .ok (.invokevirtual 134, 3) := by decide +kernel
theorem dL_isReason_162 : decode cL_isReason 162 = .ok (.ifCond .ne 7, 3) := by decide +kernel
theorem dL_isReason_165 : decode cL_isReason 165 = .ok (.iconst 1, 1) := by decide +kernel
theorem dL_isReason_166 : decode cL_isReason 166 = .ok (.goto 87, 3) := by decide +kernel
theorem dL_isReason_169 : decode cL_isReason 169 = .ok (.iload 6, 2) := by decide +kernel
theorem dL_isReason_171 : decode cL_isReason 171 = .ok (.iconst 1, 1) := by decide +kernel
theorem dL_isReason_172 : decode cL_isReason 172 = .ok (.if_icmp .ge 7, 3) := by decide +kernel
theorem dL_isReason_175 : decode cL_isReason 175 = .ok (.iconst 2, 1) := by decide +kernel
theorem dL_isReason_176 : decode cL_isReason 176 = .ok (.goto 77, 3) := by decide +kernel
theorem dL_isReason_179 : decode cL_isReason 179 = .ok (.iload_n 2, 1) := by decide +kernel
theorem dL_isReason_180 : decode cL_isReason 180 = .ok (.iload 5, 2) := by decide +kernel
theorem dL_isReason_182 : decode cL_isReason 182 = .ok (.if_icmp .eq 9, 3) := by decide +kernel
theorem dL_isReason_185 : decode cL_isReason 185 = .ok (.iload_n 3, 1) := by decide +kernel
theorem dL_isReason_186 : decode cL_isReason 186 = .ok (.iload 4, 2) := by decide +kernel
theorem dL_isReason_188 : decode cL_isReason 188 = .ok (.if_icmp .ne 7, 3) := by decide +kernel
theorem dL_isReason_191 : decode cL_isReason 191 = .ok (.iconst 3, 1) := by decide +kernel
theorem dL_isReason_192 : decode cL_isReason 192 = .ok (.goto 61, 3) := by decide +kernel
theorem dL_isReason_195 : decode cL_isReason 195 = .ok (.aload_n 0, 1) := by decide +kernel
theorem dL_isReason_196 : decode cL_isReason 196 = .ok (.getfield 100, 3) := by decide +kernel
theorem dL_isReason_199 : decode cL_isReason 199 = .ok (.ifCond .le 19, 3) := by decide +kernel
theorem dL_isReason_202 : decode cL_isReason 202 = .ok (.iload_n 2, 1) := by decide +kernel
theorem dL_isReason_203 : decode cL_isReason 203 = .ok (.iload 4, 2) := by decide +kernel
theorem dL_isReason_205 : decode cL_isReason 205 = .ok (.if_icmp .eq 9, 3) := by decide +kernel
theorem dL_isReason_208 : decode cL_isReason 208 = .ok (.iload_n 3, 1) := by decide +kernel
theorem dL_isReason_209 : decode cL_isReason 209 = .ok (.iload 5, 2) := by decide +kernel
theorem dL_isReason_211 : decode cL_isReason 211 = .ok (.if_icmp .ne 7, 3) := by decide +kernel
theorem dL_isReason_214 : decode cL_isReason 214 = .ok (.iconst 4, 1) := by decide +kernel
theorem dL_isReason_215 : decode cL_isReason 215 = .ok (.goto 38, 3) := by decide +kernel
theorem dL_isReason_218 : decode cL_isReason 218 = .ok (.aload_n 0, 1) := by decide +kernel
theorem dL_isReason_219 : decode cL_isReason 219 = .ok (.getfield 100, 3) := by decide +kernel
theorem dL_isReason_222 : decode cL_isReason 222 = .ok (.iconst 2, 1) := by decide +kernel
theorem dL_isReason_223 : decode cL_isReason 223 = .ok (.if_icmp .ne 29, 3) := by decide +kernel
theorem dL_isReason_226 : decode cL_isReason 226 = .ok (.iload 7, 2) := by decide +kernel
theorem dL_isReason_228 : decode cL_isReason 228 = .ok (.ifCond .gt 20, 3) := by decide +kernel
theorem dL_isReason_231 : decode cL_isReason 231 = .ok (.iload 8, 2) := by decide +kernel
theorem dL_isReason_233 : decode cL_isReason 233 = .ok (.ifCond .gt 15, 3) := by decide +kernel
theorem dL_isReason_236 : decode cL_isReason 236 = .ok (.iload_n 2, 1) := by decide +kernel
theorem dL_isReason_237 : decode cL_isReason 237 = .ok (.iload 4, 2) := by decide +kernel
theorem dL_isReason_239 : decode cL_isReason 239 = .ok (.iload_n 3, 1) := by decide +kernel
theorem dL_isReason_240 : decode cL_isReason 240 = .ok (.iload 5, 2) := by decide +kernel
theorem dL_isReason_242 : decode cL_isReason 242 = .ok (.invokestatic 179, 3) := by decide +kernel
theorem dL_isReason_245 : decode cL_isReason 245 = .ok (.ifCond .eq 7, 3) := by decide +kernel
theorem dL_isReason_248 : decode cL_isReason 248 = .ok (.iconst 5, 1) := by decide +kernel
theorem dL_isReason_249 : decode cL_isReason 249 = .ok (.goto 4, 3) := by decide +kernel
theorem dL_isReason_252 : decode cL_isReason 252 = .ok (.iconst 0, 1) := by decide +kernel
theorem dL_isReason_253 : decode cL_isReason 253 = .ok (.istore 9, 2) := by decide +kernel
theorem dL_isReason_255 : decode cL_isReason 255 = .ok (.aload_n 1, 1) := by decide +kernel
theorem dL_isReason_256 : decode cL_isReason 256 = .ok (.iload_n 2, 1) := by decide +kernel
theorem dL_isReason_257 : decode cL_isReason 257 = .ok (.iload_n 3, 1) := by decide +kernel
theorem dL_isReason_258 : decode cL_isReason 258 = .ok (.iload 4, 2) := by decide +kernel
theorem dL_isReason_260 : decode cL_isReason 260 = .ok (.iload 5, 2) := by decide +kernel
theorem dL_isReason_262 : decode cL_isReason 262 = .ok (.invokevirtual 183, 3) := by decide +kernel
theorem dL_isReason_265 : decode cL_isReason 265 = .ok (.iload 9, 2) := by decide +kernel
theorem dL_isReason_267 : decode cL_isReason 267 = .ok (.if_icmp .ne 7, 3) := by decide +kernel
theorem dL_isReason_270 : decode cL_isReason 270 = .ok (.iconst 1, 1) := by decide +kernel
theorem dL_isReason_271 : decode cL_isReason 271 = .ok (.goto 4, 3) := by decide +kernel
theorem dL_isReason_274 : decode cL_isReason 274 = .ok (.iconst 0, 1) := by decide +kernel
theorem dL_isReason_275 : decode cL_isReason 275 = .ok (.ireturn, 1) := by decide +kernel
theorem dL_isNoVertex_0 : decode cL_isNoVertex 0 = .ok (.aload_n 0, 1) := by decide +kernel
theorem dL_isNoVertex_1 : decode cL_isNoVertex 1 = .ok (.bipush 8, 2) := by decide +kernel
theorem dL_isNoVertex_3 : decode cL_isNoVertex 3 = .ok (.iconst 0, 1) := by decide +kernel
theorem dL_isNoVertex_4 : decode cL_isNoVertex 4 = .ok (.invokevirtual 137, 3) := by decide +kernel
theorem dL_isNoVertex_7 : decode cL_isNoVertex 7 = .ok (.bipush (-7), 2) := by decide +kernel
theorem dL_isNoVertex_9 : decode cL_isNoVertex 9 = .ok (.if_icmp .ne 7, 3) := by decide +kernel
theorem dL_isNoVertex_12 : decode cL_isNoVertex 12 = .ok (.iconst 1, 1) := by decide +kernel
theorem dL_isNoVertex_13 : decode cL_isNoVertex 13 = .ok (.goto 4, 3) := by decide +kernel
theorem dL_isNoVertex_16 : decode cL_isNoVertex 16 = .ok (.iconst 0, 1) := by decide +kernel
theorem dL_isNoVertex_17 : decode cL_isNoVertex 17 = .ok (.ireturn, 1) := by decide +kernel
theorem dL_isNoVertex_18 : decode cL_isNoVertex 18 = .ok (.astore_n 1, 1) := by decide +kernel
theorem dL_isNoVertex_19 : decode cL_isNoVertex 19 = .ok (.iconst 1, 1) := by decide +kernel
theorem dL_isNoVertex_20 : decode cL_isNoVertex 20 = .ok (.ireturn, 1) := by decide +kernel
theorem dL_isBad_0 : decode cL_isBad 0 = .ok (.aload_n 0, 1) := by decide +kernel
theorem dL_isBad_1 : decode cL_isBad 1 = .ok (.iconst 3, 1) := by decide +kernel
theorem dL_isBad_2 : decode cL_isBad 2 = .ok (.invokevirtual 189, 3) := by decide +kernel
theorem dL_isBad_5 : decode cL_isBad 5 = .ok (.bipush (-7), 2) := by decide +kernel
theorem dL_isBad_7 : decode cL_isBad 7 = .ok (.if_icmp .ne 7, 3) := by decide +kernel
theorem dL_isBad_10 : decode cL_isBad 10 = .ok (.iconst 1, 1) := by decide +kernel
theorem dL_isBad_11 : decode cL_isBad 11 = .ok (.goto 4, 3) := by decide +kernel
theorem dL_isBad_14 : decode cL_isBad 14 = .ok (.iconst 0, 1) := by decide +kernel
theorem dL_isBad_15 : decode cL_isBad 15 = .ok (.ireturn, 1) := by decide +kernel
theorem dL_isBad_16 : decode cL_isBad 16 = .ok (.astore_n 1, 1) := by decide +kernel
theorem dL_isBad_17 : decode cL_isBad 17 = .ok (.iconst 1, 1) := by decide +kernel
theorem dL_isBad_18 : decode cL_isBad 18 = .ok (.ireturn, 1) := by decide +kernel
theorem dL_isNoEdge_0 : decode cL_isNoEdge 0 = .ok (.aload_n 1, 1) := by decide +kernel
theorem dL_isNoEdge_1 : decode cL_isNoEdge 1 = .ok (.aload_n 0, 1) := by decide +kernel
theorem dL_isNoEdge_2 : decode cL_isNoEdge 2 = .ok (.getfield 75, 3) := by decide +kernel
theorem dL_isNoEdge_5 : decode cL_isNoEdge 5 = .ok (.iconst 1, 1) := by decide +kernel
theorem dL_isNoEdge_6 : decode cL_isNoEdge 6 = .ok (.isub, 1) := by decide +kernel
theorem dL_isNoEdge_7 : decode cL_isNoEdge 7 = .ok (.aload_n 0, 1) := by decide +kernel
theorem dL_isNoEdge_8 : decode cL_isNoEdge 8 = .ok (.getfield 75, 3) := by decide +kernel
theorem dL_isNoEdge_11 : decode cL_isNoEdge 11 = .ok (.iconst 1, 1) := by decide +kernel
theorem dL_isNoEdge_12 : decode cL_isNoEdge 12 = .ok (.isub, 1) := by decide +kernel
theorem dL_isNoEdge_13 : decode cL_isNoEdge 13 = .ok (.invokevirtual 194, 3) := by decide +kernel
theorem dL_isNoEdge_16 : decode cL_isNoEdge 16 = .ok (.aload_n 0, 1) := by decide +kernel
theorem dL_isNoEdge_17 : decode cL_isNoEdge 17 = .ok (.getfield 15, 3) := by decide +kernel
theorem dL_isNoEdge_20 : decode cL_isNoEdge 20 = .ok (.aload_n 0, 1) := by decide +kernel
theorem dL_isNoEdge_21 : decode cL_isNoEdge 21 = .ok (.getfield 75, 3) := by decide +kernel
theorem dL_isNoEdge_24 : decode cL_isNoEdge 24 = .ok (.iconst 1, 1) := by decide +kernel
theorem dL_isNoEdge_25 : decode cL_isNoEdge 25 = .ok (.isub, 1) := by decide +kernel
theorem dL_isNoEdge_26 : decode cL_isNoEdge 26 = .ok (.aaload, 1) := by decide +kernel
theorem dL_isNoEdge_27 : decode cL_isNoEdge 27 = .ok (.aload_n 0, 1) := by decide +kernel
theorem dL_isNoEdge_28 : decode cL_isNoEdge 28 = .ok (.getfield 75, 3) := by decide +kernel
theorem dL_isNoEdge_31 : decode cL_isNoEdge 31 = .ok (.iconst 1, 1) := by decide +kernel
theorem dL_isNoEdge_32 : decode cL_isNoEdge 32 = .ok (.isub, 1) := by decide +kernel
theorem dL_isNoEdge_33 : decode cL_isNoEdge 33 = .ok (.iaload, 1) := by decide +kernel
theorem dL_isNoEdge_34 : decode cL_isNoEdge 34 = .ok (.iconst 1, 1) := by decide +kernel
theorem dL_isNoEdge_35 : decode cL_isNoEdge 35 = .ok (.isub, 1) := by decide +kernel
theorem dL_isNoEdge_36 : decode cL_isNoEdge 36 = .ok (.if_icmp .ne 7, 3) := by decide +kernel
theorem dL_isNoEdge_39 : decode cL_isNoEdge 39 = .ok (.iconst 1, 1) := by decide +kernel
theorem dL_isNoEdge_40 : decode cL_isNoEdge 40 = .ok (.goto 4, 3) := by decide +kernel
theorem dL_isNoEdge_43 : decode cL_isNoEdge 43 = .ok (.iconst 0, 1) := by decide +kernel
theorem dL_isNoEdge_44 : decode cL_isNoEdge 44 = .ok (.ireturn, 1) := by decide +kernel
theorem dL_isNoEdge_45 : decode cL_isNoEdge 45 = .ok (.astore_n 2, 1) := by decide +kernel
theorem dL_isNoEdge_46 : decode cL_isNoEdge 46 = .ok (.aload_n 0, 1) := by decide +kernel
theorem dL_isNoEdge_47 : decode cL_isNoEdge 47 = .ok (.getfield 15, 3) := by decide +kernel
theorem dL_isNoEdge_50 : decode cL_isNoEdge 50 = .ok (.aload_n 0, 1) := by decide +kernel
theorem dL_isNoEdge_51 : decode cL_isNoEdge 51 = .ok (.getfield 75, 3) := by decide +kernel
theorem dL_isNoEdge_54 : decode cL_isNoEdge 54 = .ok (.iconst 1, 1) := by decide +kernel
theorem dL_isNoEdge_55 : decode cL_isNoEdge 55 = .ok (.isub, 1) := by decide +kernel
theorem dL_isNoEdge_56 : decode cL_isNoEdge 56 = .ok (.aaload, 1) := by decide +kernel
theorem dL_isNoEdge_57 : decode cL_isNoEdge 57 = .ok (.aload_n 0, 1) := by decide +kernel
theorem dL_isNoEdge_58 : decode cL_isNoEdge 58 = .ok (.getfield 75, 3) := by decide +kernel
theorem dL_isNoEdge_61 : decode cL_isNoEdge 61 = .ok (.iconst 1, 1) := by decide +kernel
theorem dL_isNoEdge_62 : decode cL_isNoEdge 62 = .ok (.isub, 1) := by decide +kernel
theorem dL_isNoEdge_63 : decode cL_isNoEdge 63 = .ok (.iaload, 1) := by decide +kernel
theorem dL_isNoEdge_64 : decode cL_isNoEdge 64 = .ok (.ifCond .ne 7, 3) := by decide +kernel
theorem dL_isNoEdge_67 : decode cL_isNoEdge 67 = .ok (.iconst 1, 1) := by decide +kernel
theorem dL_isNoEdge_68 : decode cL_isNoEdge 68 = .ok (.goto 4, 3) := by decide +kernel
theorem dL_isNoEdge_71 : decode cL_isNoEdge 71 = .ok (.iconst 0, 1) := by decide +kernel
theorem dL_isNoEdge_72 : decode cL_isNoEdge 72 = .ok (.ireturn, 1) := by decide +kernel
