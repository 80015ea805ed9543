theorem dX7_trace_31 : decode cX7_trace 31 = .ok (.ireturn, 1) := by decide +kernel
theorem dX7_lengthOf_0 : decode cX7_lengthOf 0 = .ok (.iload_n 1, 1) := by decide +kernel
theorem dX7_lengthOf_1 : decode cX7_lengthOf 1 = .ok (.invokestatic 52, 3) := by decide +kernel
theorem dX7_lengthOf_4 : decode cX7_lengthOf 4 = .ok (.iload_n 2, 1) := by decide +kernel
theorem dX7_lengthOf_5 : decode cX7_lengthOf 5 = .ok (.ifCond .lt 9, 3) := by decide +kernel
theorem dX7_lengthOf_8 : decode cX7_lengthOf 8 = .ok (.iload_n 2, 1) := by decide +kernel
theorem dX7_lengthOf_9 : decode cX7_lengthOf 9 = .ok (.bipush 20, 2) := by decide +kernel
theorem dX7_lengthOf_11 : decode cX7_lengthOf 11 = .ok (.if_icmp .le 13, 3) := by decide +kernel
theorem dX7_lengthOf_14 : decode cX7_lengthOf 14 = .ok (.new 90, 3) := by decide +kernel
theorem dX7_lengthOf_17 : decode cX7_lengthOf 17 = .ok (.dup, 1) := by decide +kernel
theorem dX7_lengthOf_18 : decode cX7_lengthOf 18 = .ok (.ldc 233, 2) := by decide +kernel
theorem dX7_lengthOf_20 : decode cX7_lengthOf 20 = .ok (.invokespecial 94, 3) := by decide +kernel
theorem dX7_lengthOf_23 : decode cX7_lengthOf 23 = .ok (.athrow, 1) := by decide +kernel
theorem dX7_lengthOf_24 : decode cX7_lengthOf 24 = .ok (.aload_n 0, 1) := by decide +kernel
theorem dX7_lengthOf_25 : decode cX7_lengthOf 25 = .ok (.getfield 10, 3) := by decide +kernel
theorem dX7_lengthOf_28 : decode cX7_lengthOf 28 = .ok (.iload_n 1, 1) := by decide +kernel
theorem dX7_lengthOf_29 : decode cX7_lengthOf 29 = .ok (.invokevirtual 87, 3) := by decide +kernel
theorem dX7_lengthOf_32 : decode cX7_lengthOf 32 = .ok (.astore_n 3, 1) := by decide +kernel
theorem dX7_lengthOf_33 : decode cX7_lengthOf 33 = .ok (.aload_n 3, 1) := by decide +kernel
theorem dX7_lengthOf_34 : decode cX7_lengthOf 34 = .ok (.ifnonnull 5, 3) := by decide +kernel
theorem dX7_lengthOf_37 : decode cX7_lengthOf 37 = .ok (.iconst (-1), 1) := by decide +kernel
theorem dX7_lengthOf_38 : decode cX7_lengthOf 38 = .ok (.ireturn, 1) := by decide +kernel
theorem dX7_lengthOf_39 : decode cX7_lengthOf 39 = .ok (.aload_n 0, 1) := by decide +kernel
theorem dX7_lengthOf_40 : decode cX7_lengthOf 40 = .ok (.getfield 44, 3) := by decide +kernel
theorem dX7_lengthOf_43 : decode cX7_lengthOf 43 = .ok (.aload_n 0, 1) := by decide +kernel
theorem dX7_lengthOf_44 : decode cX7_lengthOf 44 = .ok (.getfield 10, 3) := by decide +kernel
theorem dX7_lengthOf_47 : decode cX7_lengthOf 47 = .ok (.iload_n 1, 1) := by decide +kernel
theorem dX7_lengthOf_48 : decode cX7_lengthOf 48 = .ok (.aload_n 3, 1) := by decide +kernel
theorem dX7_lengthOf_49 : decode cX7_lengthOf 49 = .ok (.getfield 76, 3) := by decide +kernel
theorem dX7_lengthOf_52 : decode cX7_lengthOf 52 = .ok (.iload_n 2, 1) := by decide +kernel
theorem dX7_lengthOf_53 : decode cX7_lengthOf 53 = .ok (.invokevirtual 235, 3) := by decide +kernel
theorem dX7_lengthOf_56 : decode cX7_lengthOf 56 = .ok (.ireturn, 1) := by decide +kernel
theorem dX7_count_0 : decode cX7_count 0 = .ok (.iload_n 1, 1) := by decide +kernel
theorem dX7_count_1 : decode cX7_count 1 = .ok (.bipush 7, 2) := by decide +kernel
theorem dX7_count_3 : decode cX7_count 3 = .ok (.invokestatic 169, 3) := by decide +kernel
theorem dX7_count_6 : decode cX7_count 6 = .ok (.iload_n 1, 1) := by decide +kernel
theorem dX7_count_7 : decode cX7_count 7 = .ok (.tableswitch 97 0 6 #[41, 49, 57, 65, 73, 81, 89], 41) := by decide +kernel
theorem dX7_count_48 : decode cX7_count 48 = .ok (.aload_n 0, 1) := by decide +kernel
theorem dX7_count_49 : decode cX7_count 49 = .ok (.getfield 10, 3) := by decide +kernel
theorem dX7_count_52 : decode cX7_count 52 = .ok (.invokevirtual 83, 3) := by decide +kernel
theorem dX7_count_55 : decode cX7_count 55 = .ok (.ireturn, 1) := by decide +kernel
theorem dX7_count_56 : decode cX7_count 56 = .ok (.aload_n 0, 1) := by decide +kernel
theorem dX7_count_57 : decode cX7_count 57 = .ok (.getfield 10, 3) := by decide +kernel
theorem dX7_count_60 : decode cX7_count 60 = .ok (.invokevirtual 239, 3) := by decide +kernel
theorem dX7_count_63 : decode cX7_count 63 = .ok (.ireturn, 1) := by decide +kernel
theorem dX7_count_64 : decode cX7_count 64 = .ok (.aload_n 0, 1) := by decide +kernel
theorem dX7_count_65 : decode cX7_count 65 = .ok (.getfield 10, 3) := by decide +kernel
theorem dX7_count_68 : decode cX7_count 68 = .ok (.getfield 97, 3) := by decide +kernel
theorem dX7_count_71 : decode cX7_count 71 = .ok (.ireturn, 1) := by decide +kernel
theorem dX7_count_72 : decode cX7_count 72 = .ok (.aload_n 0, 1) := by decide +kernel
theorem dX7_count_73 : decode cX7_count 73 = .ok (.getfield 10, 3) := by decide +kernel
theorem dX7_count_76 : decode cX7_count 76 = .ok (.getfield 115, 3) := by decide +kernel
theorem dX7_count_79 : decode cX7_count 79 = .ok (.ireturn, 1) := by decide +kernel
theorem dX7_count_80 : decode cX7_count 80 = .ok (.aload_n 0, 1) := by decide +kernel
theorem dX7_count_81 : decode cX7_count 81 = .ok (.getfield 10, 3) := by decide +kernel
theorem dX7_count_84 : decode cX7_count 84 = .ok (.getfield 104, 3) := by decide +kernel
theorem dX7_count_87 : decode cX7_count 87 = .ok (.ireturn, 1) := by decide +kernel
theorem dX7_count_88 : decode cX7_count 88 = .ok (.aload_n 0, 1) := by decide +kernel
theorem dX7_count_89 : decode cX7_count 89 = .ok (.getfield 10, 3) := by decide +kernel
theorem dX7_count_92 : decode cX7_count 92 = .ok (.invokevirtual 242, 3) := by decide +kernel
theorem dX7_count_95 : decode cX7_count 95 = .ok (.ireturn, 1) := by decide +kernel
theorem dX7_count_96 : decode cX7_count 96 = .ok (.aload_n 0, 1) := by decide +kernel
theorem dX7_count_97 : decode cX7_count 97 = .ok (.getfield 19, 3) := by decide +kernel
theorem dX7_count_100 : decode cX7_count 100 = .ok (.getfield 150, 3) := by decide +kernel
theorem dX7_count_103 : decode cX7_count 103 = .ok (.ireturn, 1) := by decide +kernel
theorem dX7_count_104 : decode cX7_count 104 = .ok (.aload_n 0, 1) := by decide +kernel
theorem dX7_count_105 : decode cX7_count 105 = .ok (.getfield 48, 3) := by decide +kernel
theorem dX7_count_108 : decode cX7_count 108 = .ok (.ireturn, 1) := by decide +kernel
theorem dX7_meanHoles_0 : decode cX7_meanHoles 0 = .ok (.aload_n 0, 1) := by decide +kernel
theorem dX7_meanHoles_1 : decode cX7_meanHoles 1 = .ok (.getfield 10, 3) := by decide +kernel
theorem dX7_meanHoles_4 : decode cX7_meanHoles 4 = .ok (.invokevirtual 83, 3) := by decide +kernel
theorem dX7_meanHoles_7 : decode cX7_meanHoles 7 = .ok (.istore_n 1, 1) := by decide +kernel
theorem dX7_meanHoles_8 : decode cX7_meanHoles 8 = .ok (.iload_n 1, 1) := by decide +kernel
theorem dX7_meanHoles_9 : decode cX7_meanHoles 9 = .ok (.ifCond .ne 5, 3) := by decide +kernel
theorem dX7_meanHoles_12 : decode cX7_meanHoles 12 = .ok (.dconst 0, 1) := by decide +kernel
theorem dX7_meanHoles_13 : decode cX7_meanHoles 13 = .ok (.dreturn, 1) := by decide +kernel
theorem dX7_meanHoles_14 : decode cX7_meanHoles 14 = .ok (.aload_n 0, 1) := by decide +kernel
theorem dX7_meanHoles_15 : decode cX7_meanHoles 15 = .ok (.getfield 10, 3) := by decide +kernel
theorem dX7_meanHoles_18 : decode cX7_meanHoles 18 = .ok (.invokevirtual 245, 3) := by decide +kernel
theorem dX7_meanHoles_21 : decode cX7_meanHoles 21 = .ok (.i2d, 1) := by decide +kernel
theorem dX7_meanHoles_22 : decode cX7_meanHoles 22 = .ok (.iload_n 1, 1) := by decide +kernel
theorem dX7_meanHoles_23 : decode cX7_meanHoles 23 = .ok (.i2d, 1) := by decide +kernel
theorem dX7_meanHoles_24 : decode cX7_meanHoles 24 = .ok (.ddiv, 1) := by decide +kernel
theorem dX7_meanHoles_25 : decode cX7_meanHoles 25 = .ok (.dreturn, 1) := by decide +kernel
theorem dX7_isLetter_0 : decode cX7_isLetter 0 = .ok (.iload_n 0, 1) := by decide +kernel
theorem dX7_isLetter_1 : decode cX7_isLetter 1 = .ok (.ifCond .lt 13, 3) := by decide +kernel
theorem dX7_isLetter_4 : decode cX7_isLetter 4 = .ok (.iload_n 0, 1) := by decide +kernel
theorem dX7_isLetter_5 : decode cX7_isLetter 5 = .ok (.bipush 26, 2) := by decide +kernel
theorem dX7_isLetter_7 : decode cX7_isLetter 7 = .ok (.if_icmp .ge 7, 3) := by decide +kernel
theorem dX7_isLetter_10 : decode cX7_isLetter 10 = .ok (.iconst 1, 1) := by decide +kernel
theorem dX7_isLetter_11 : decode cX7_isLetter 11 = .ok (.goto 4, 3) := by decide +kernel
theorem dX7_isLetter_14 : decode cX7_isLetter 14 = .ok (.iconst 0, 1) := by decide +kernel
theorem dX7_isLetter_15 : decode cX7_isLetter 15 = .ok (.ireturn, 1) := by decide +kernel
theorem dX7_isAbbreviation_0 : decode cX7_isAbbreviation 0 = .ok (.iload_n 0, 1) := by decide +kernel
theorem dX7_isAbbreviation_1 : decode cX7_isAbbreviation 1 = .ok (.bipush 65, 2) := by decide +kernel
theorem dX7_isAbbreviation_3 : decode cX7_isAbbreviation 3 = .ok (.if_icmp .lt 13, 3) := by decide +kernel
theorem dX7_isAbbreviation_6 : decode cX7_isAbbreviation 6 = .ok (.iload_n 0, 1) := by decide +kernel
theorem dX7_isAbbreviation_7 : decode cX7_isAbbreviation 7 = .ok (.bipush 90, 2) := by decide +kernel
theorem dX7_isAbbreviation_9 : decode cX7_isAbbreviation 9 = .ok (.if_icmp .gt 7, 3) := by decide +kernel
theorem dX7_isAbbreviation_12 : decode cX7_isAbbreviation 12 = .ok (.iconst 1, 1) := by decide +kernel
theorem dX7_isAbbreviation_13 : decode cX7_isAbbreviation 13 = .ok (.goto 4, 3) := by decide +kernel
theorem dX7_isAbbreviation_16 : decode cX7_isAbbreviation 16 = .ok (.iconst 0, 1) := by decide +kernel
theorem dX7_isAbbreviation_17 : decode cX7_isAbbreviation 17 = .ok (.ireturn, 1) := by decide +kernel
theorem dX7_requireLetter_0 : decode cX7_requireLetter 0 = .ok (.iload_n 0, 1) := by decide +kernel
theorem dX7_requireLetter_1 : decode cX7_requireLetter 1 = .ok (.invokestatic 248, 3) := by decide +kernel
theorem dX7_requireLetter_4 : decode cX7_requireLetter 4 = .ok (.ifCond .ne 13, 3) := by decide +kernel
theorem dX7_requireLetter_7 : decode cX7_requireLetter 7 = .ok (.new 252, 3) := by decide +kernel
theorem dX7_requireLetter_10 : decode cX7_requireLetter 10 = .ok (.dup, 1) := by decide +kernel
theorem dX7_requireLetter_11 : decode cX7_requireLetter 11 = .ok (.ldc 254, 2) := by decide +kernel
theorem dX7_requireLetter_13 : decode cX7_requireLetter 13 = .ok (.invokespecial 256, 3) := by decide +kernel
theorem dX7_requireLetter_16 : decode cX7_requireLetter 16 = .ok (.athrow, 1) := by decide +kernel
theorem dX7_requireLetter_17 : decode cX7_requireLetter 17 = .ok (.return_, 1) := by decide +kernel
theorem dX7_requireWhat_0 : decode cX7_requireWhat 0 = .ok (.iload_n 0, 1) := by decide +kernel
theorem dX7_requireWhat_1 : decode cX7_requireWhat 1 = .ok (.ifCond .lt 8, 3) := by decide +kernel
theorem dX7_requireWhat_4 : decode cX7_requireWhat 4 = .ok (.iload_n 0, 1) := by decide +kernel
theorem dX7_requireWhat_5 : decode cX7_requireWhat 5 = .ok (.iload_n 1, 1) := by decide +kernel
theorem dX7_requireWhat_6 : decode cX7_requireWhat 6 = .ok (.if_icmp .le 14, 3) := by decide +kernel
theorem dX7_requireWhat_9 : decode cX7_requireWhat 9 = .ok (.new 90, 3) := by decide +kernel
theorem dX7_requireWhat_12 : decode cX7_requireWhat 12 = .ok (.dup, 1) := by decide +kernel
theorem dX7_requireWhat_13 : decode cX7_requireWhat 13 = .ok (.ldc_w 257, 3) := by decide +kernel
theorem dX7_requireWhat_16 : decode cX7_requireWhat 16 = .ok (.invokespecial 94, 3) := by decide +kernel
theorem dX7_requireWhat_19 : decode cX7_requireWhat 19 = .ok (.athrow, 1) := by decide +kernel
theorem dX7_requireWhat_20 : decode cX7_requireWhat 20 = .ok (.return_, 1) := by decide +kernel
theorem dX7_requireSlot_0 : decode cX7_requireSlot 0 = .ok (.iload_n 0, 1) := by decide +kernel
theorem dX7_requireSlot_1 : decode cX7_requireSlot 1 = .ok (.ifCond .lt 8, 3) := by decide +kernel
theorem dX7_requireSlot_4 : decode cX7_requireSlot 4 = .ok (.iload_n 0, 1) := by decide +kernel
theorem dX7_requireSlot_5 : decode cX7_requireSlot 5 = .ok (.iconst 2, 1) := by decide +kernel
theorem dX7_requireSlot_6 : decode cX7_requireSlot 6 = .ok (.if_icmp .lt 14, 3) := by decide +kernel
theorem dX7_requireSlot_9 : decode cX7_requireSlot 9 = .ok (.new 90, 3) := by decide +kernel
theorem dX7_requireSlot_12 : decode cX7_requireSlot 12 = .ok (.dup, 1) := by decide +kernel
theorem dX7_requireSlot_13 : decode cX7_requireSlot 13 = .ok (.ldc_w 259, 3) := by decide +kernel
theorem dX7_requireSlot_16 : decode cX7_requireSlot 16 = .ok (.invokespecial 94, 3) := by decide +kernel
theorem dX7_requireSlot_19 : decode cX7_requireSlot 19 = .ok (.athrow, 1) := by decide +kernel
theorem dX7_requireSlot_20 : decode cX7_requireSlot 20 = .ok (.return_, 1) := by decide +kernel
theorem dX7_requireDefinition_0 : decode cX7_requireDefinition 0 = .ok (.aload_n 0, 1) := by decide +kernel
theorem dX7_requireDefinition_1 : decode cX7_requireDefinition 1 = .ok (.getfield 10, 3) := by decide +kernel
theorem dX7_requireDefinition_4 : decode cX7_requireDefinition 4 = .ok (.iload_n 1, 1) := by decide +kernel
theorem dX7_requireDefinition_5 : decode cX7_requireDefinition 5 = .ok (.invokevirtual 87, 3) := by decide +kernel
theorem dX7_requireDefinition_8 : decode cX7_requireDefinition 8 = .ok (.astore_n 2, 1) := by decide +kernel
theorem dX7_requireDefinition_9 : decode cX7_requireDefinition 9 = .ok (.aload_n 2, 1) := by decide +kernel
theorem dX7_requireDefinition_10 : decode cX7_requireDefinition 10 = .ok (.ifnonnull 14, 3) := by decide +kernel
theorem dX7_requireDefinition_13 : decode cX7_requireDefinition 13 = .ok (.new 125, 3) := by decide +kernel
theorem dX7_requireDefinition_16 : decode cX7_requireDefinition 16 = .ok (.dup, 1) := by decide +kernel
theorem dX7_requireDefinition_17 : decode cX7_requireDefinition 17 = .ok (.ldc_w 261, 3) := by decide +kernel
theorem dX7_requireDefinition_20 : decode cX7_requireDefinition 20 = .ok (.invokespecial 129, 3) := by decide +kernel
theorem dX7_requireDefinition_23 : decode cX7_requireDefinition 23 = .ok (.athrow, 1) := by decide +kernel
theorem dX7_requireDefinition_24 : decode cX7_requireDefinition 24 = .ok (.aload_n 2, 1) := by decide +kernel
theorem dX7_requireDefinition_25 : decode cX7_requireDefinition 25 = .ok (.areturn, 1) := by decide +kernel
theorem dX7_copyOfBuffer_0 : decode cX7_copyOfBuffer 0 = .ok (.aload_n 0, 1) := by decide +kernel
theorem dX7_copyOfBuffer_1 : decode cX7_copyOfBuffer 1 = .ok (.getfield 23, 3) := by decide +kernel
theorem dX7_copyOfBuffer_4 : decode cX7_copyOfBuffer 4 = .ok (.iconst 0, 1) := by decide +kernel
theorem dX7_copyOfBuffer_5 : decode cX7_copyOfBuffer 5 = .ok (.aload_n 0, 1) := by decide +kernel
theorem dX7_copyOfBuffer_6 : decode cX7_copyOfBuffer 6 = .ok (.getfield 48, 3) := by decide +kernel
theorem dX7_copyOfBuffer_9 : decode cX7_copyOfBuffer 9 = .ok (.aload_n 0, 1) := by decide +kernel
theorem dX7_copyOfBuffer_10 : decode cX7_copyOfBuffer 10 = .ok (.getfield 23, 3) := by decide +kernel
theorem dX7_copyOfBuffer_13 : decode cX7_copyOfBuffer 13 = .ok (.arraylength, 1) := by decide +kernel
theorem dX7_copyOfBuffer_14 : decode cX7_copyOfBuffer 14 = .ok (.invokestatic 138, 3) := by decide +kernel
theorem dX7_copyOfBuffer_17 : decode cX7_copyOfBuffer 17 = .ok (.invokestatic 263, 3) := by decide +kernel
theorem dX7_copyOfBuffer_20 : decode cX7_copyOfBuffer 20 = .ok (.invokestatic 266, 3) := by decide +kernel
theorem dX7_copyOfBuffer_23 : decode cX7_copyOfBuffer 23 = .ok (.areturn, 1) := by decide +kernel
theorem dX7_requireCompleteText_0 : decode cX7_requireCompleteText 0 = .ok (.aload_n 0, 1) := by decide +kernel
theorem dX7_requireCompleteText_1 : decode cX7_requireCompleteText 1 = .ok (.getfield 30, 3) := by decide +kernel
theorem dX7_requireCompleteText_4 : decode cX7_requireCompleteText 4 = .ok (.aload_n 0, 1) := by decide +kernel
theorem dX7_requireCompleteText_5 : decode cX7_requireCompleteText 5 = .ok (.getfield 23, 3) := by decide +kernel
theorem dX7_requireCompleteText_8 : decode cX7_requireCompleteText 8 = .ok (.aload_n 0, 1) := by decide +kernel
theorem dX7_requireCompleteText_9 : decode cX7_requireCompleteText 9 = .ok (.getfield 48, 3) := by decide +kernel
theorem dX7_requireCompleteText_12 : decode cX7_requireCompleteText 12 = .ok (.invokevirtual 130, 3) := by decide +kernel
theorem dX7_requireCompleteText_15 : decode cX7_requireCompleteText 15 = .ok (.aload_n 0, 1) := by decide +kernel
theorem dX7_requireCompleteText_16 : decode cX7_requireCompleteText 16 = .ok (.getfield 30, 3) := by decide +kernel
theorem dX7_requireCompleteText_19 : decode cX7_requireCompleteText 19 = .ok (.invokevirtual 272, 3) := by decide +kernel
theorem dX7_requireCompleteText_22 : decode cX7_requireCompleteText 22 = .ok (.ifCond .ne 14, 3) := by decide +kernel
theorem dX7_requireCompleteText_25 : decode cX7_requireCompleteText 25 = .ok (.new 90, 3) := by decide +kernel
theorem dX7_requireCompleteText_28 : decode cX7_requireCompleteText 28 = .ok (.dup, 1) := by decide +kernel
theorem dX7_requireCompleteText_29 : decode cX7_requireCompleteText 29 = .ok (.ldc_w 276, 3) := by decide +kernel
theorem dX7_requireCompleteText_32 : decode cX7_requireCompleteText 32 = .ok (.invokespecial 94, 3) := by decide +kernel
theorem dX7_requireCompleteText_35 : decode cX7_requireCompleteText 35 = .ok (.athrow, 1) := by decide +kernel
theorem dX7_requireCompleteText_36 : decode cX7_requireCompleteText 36 = .ok (.return_, 1) := by decide +kernel
theorem dJ6_bitCount_0f7a4_0 : decode cJ6_bitCount_0f7a4 0 = .ok (.iload_n 0, 1) := by decide +kernel
theorem dJ6_bitCount_0f7a4_1 : decode cJ6_bitCount_0f7a4 1 = .ok (.iload_n 0, 1) := by decide +kernel
theorem dJ6_bitCount_0f7a4_2 : decode cJ6_bitCount_0f7a4 2 = .ok (.iconst 1, 1) := by decide +kernel
theorem dJ6_bitCount_0f7a4_3 : decode cJ6_bitCount_0f7a4 3 = .ok (.iushr, 1) := by decide +kernel
theorem dJ6_bitCount_0f7a4_4 : decode cJ6_bitCount_0f7a4 4 = .ok (.ldc_w 265, 3) := by decide +kernel
theorem dJ6_bitCount_0f7a4_7 : decode cJ6_bitCount_0f7a4 7 = .ok (.iand, 1) := by decide +kernel
theorem dJ6_bitCount_0f7a4_8 : decode cJ6_bitCount_0f7a4 8 = .ok (.isub, 1) := by decide +kernel
theorem dJ6_bitCount_0f7a4_9 : decode cJ6_bitCount_0f7a4 9 = .ok (.istore_n 0, 1) := by decide +kernel
theorem dJ6_bitCount_0f7a4_10 : decode cJ6_bitCount_0f7a4 10 = .ok (.iload_n 0, 1) := by decide +kernel
theorem dJ6_bitCount_0f7a4_11 : decode cJ6_bitCount_0f7a4 11 = .ok (.ldc_w 266, 3) := by decide +kernel
theorem dJ6_bitCount_0f7a4_14 : decode cJ6_bitCount_0f7a4 14 = .ok (.iand, 1) := by decide +kernel
theorem dJ6_bitCount_0f7a4_15 : decode cJ6_bitCount_0f7a4 15 = .ok (.iload_n 0, 1) := by decide +kernel
theorem dJ6_bitCount_0f7a4_16 : decode cJ6_bitCount_0f7a4 16 = .ok (.iconst 2, 1) := by decide +kernel
theorem dJ6_bitCount_0f7a4_17 : decode cJ6_bitCount_0f7a4 17 = .ok (.iushr, 1) := by decide +kernel
theorem dJ6_bitCount_0f7a4_18 : decode cJ6_bitCount_0f7a4 18 = .ok (.ldc_w 266, 3) := by decide +kernel
theorem dJ6_bitCount_0f7a4_21 : decode cJ6_bitCount_0f7a4 21 = .ok (.iand, 1) := by decide +kernel
theorem dJ6_bitCount_0f7a4_22 : decode cJ6_bitCount_0f7a4 22 = .ok (.iadd, 1) := by decide +kernel
theorem dJ6_bitCount_0f7a4_23 : decode cJ6_bitCount_0f7a4 23 = .ok (.istore_n 0, 1) := by decide +kernel
theorem dJ6_bitCount_0f7a4_24 : decode cJ6_bitCount_0f7a4 24 = .ok (.iload_n 0, 1) := by decide +kernel
theorem dJ6_bitCount_0f7a4_25 : decode cJ6_bitCount_0f7a4 25 = .ok (.iload_n 0, 1) := by decide +kernel
theorem dJ6_bitCount_0f7a4_26 : decode cJ6_bitCount_0f7a4 26 = .ok (.iconst 4, 1) := by decide +kernel
theorem dJ6_bitCount_0f7a4_27 : decode cJ6_bitCount_0f7a4 27 = .ok (.iushr, 1) := by decide +kernel
theorem dJ6_bitCount_0f7a4_28 : decode cJ6_bitCount_0f7a4 28 = .ok (.iadd, 1) := by decide +kernel
theorem dJ6_bitCount_0f7a4_29 : decode cJ6_bitCount_0f7a4 29 = .ok (.ldc_w 267, 3) := by decide +kernel
theorem dJ6_bitCount_0f7a4_32 : decode cJ6_bitCount_0f7a4 32 = .ok (.iand, 1) := by decide +kernel
theorem dJ6_bitCount_0f7a4_33 : decode cJ6_bitCount_0f7a4 33 = .ok (.istore_n 0, 1) := by decide +kernel
theorem dJ6_bitCount_0f7a4_34 : decode cJ6_bitCount_0f7a4 34 = .ok (.iload_n 0, 1) := by decide +kernel
theorem dJ6_bitCount_0f7a4_35 : decode cJ6_bitCount_0f7a4 35 = .ok (.iload_n 0, 1) := by decide +kernel
theorem dJ6_bitCount_0f7a4_36 : decode cJ6_bitCount_0f7a4 36 = .ok (.bipush 8, 2) := by decide +kernel
theorem dJ6_bitCount_0f7a4_38 : decode cJ6_bitCount_0f7a4 38 = .ok (.iushr, 1) := by decide +kernel
theorem dJ6_bitCount_0f7a4_39 : decode cJ6_bitCount_0f7a4 39 = .ok (.iadd, 1) := by decide +kernel
theorem dJ6_bitCount_0f7a4_40 : decode cJ6_bitCount_0f7a4 40 = .ok (.istore_n 0, 1) := by decide +kernel
theorem dJ6_bitCount_0f7a4_41 : decode cJ6_bitCount_0f7a4 41 = .ok (.iload_n 0, 1) := by decide +kernel
theorem dJ6_bitCount_0f7a4_42 : decode cJ6_bitCount_0f7a4 42 = .ok (.iload_n 0, 1) := by decide +kernel
theorem dJ6_bitCount_0f7a4_43 : decode cJ6_bitCount_0f7a4 43 = .ok (.bipush 16, 2) := by decide +kernel
theorem dJ6_bitCount_0f7a4_45 : decode cJ6_bitCount_0f7a4 45 = .ok (.iushr, 1) := by decide +kernel
theorem dJ6_bitCount_0f7a4_46 : decode cJ6_bitCount_0f7a4 46 = .ok (.iadd, 1) := by decide +kernel
theorem dJ6_bitCount_0f7a4_47 : decode cJ6_bitCount_0f7a4 47 = .ok (.istore_n 0, 1) := by decide +kernel
theorem dJ6_bitCount_0f7a4_48 : decode cJ6_bitCount_0f7a4 48 = .ok (.iload_n 0, 1) := by decide +kernel
theorem dJ6_bitCount_0f7a4_49 : decode cJ6_bitCount_0f7a4 49 = .ok (.bipush 63, 2) := by decide +kernel
theorem dJ6_bitCount_0f7a4_51 : decode cJ6_bitCount_0f7a4 51 = .ok (.iand, 1) := by decide +kernel
theorem dJ6_bitCount_0f7a4_52 : decode cJ6_bitCount_0f7a4 52 = .ok (.ireturn, 1) := by decide +kernel
theorem dJ9_max_7cf53_0 : decode cJ9_max_7cf53 0 = .ok (.iload_n 0, 1) := by decide +kernel
theorem dJ9_max_7cf53_1 : decode cJ9_max_7cf53 1 = .ok (.iload_n 1, 1) := by decide +kernel
theorem dJ9_max_7cf53_2 : decode cJ9_max_7cf53 2 = .ok (.if_icmp .lt 7, 3) := by decide +kernel
theorem dJ9_max_7cf53_5 : decode cJ9_max_7cf53 5 = .ok (.iload_n 0, 1) := by decide +kernel
theorem dJ9_max_7cf53_6 : decode cJ9_max_7cf53 6 = .ok (.goto 4, 3) := by decide +kernel
theorem dJ9_max_7cf53_9 : decode cJ9_max_7cf53 9 = .ok (.iload_n 1, 1) := by decide +kernel
theorem dJ9_max_7cf53_10 : decode cJ9_max_7cf53 10 = .ok (.ireturn, 1) := by decide +kernel
theorem dJ9_min_7cf53_0 : decode cJ9_min_7cf53 0 = .ok (.iload_n 0, 1) := by decide +kernel
theorem dJ9_min_7cf53_1 : decode cJ9_min_7cf53 1 = .ok (.iload_n 1, 1) := by decide +kernel
theorem dJ9_min_7cf53_2 : decode cJ9_min_7cf53 2 = .ok (.if_icmp .gt 7, 3) := by decide +kernel
theorem dJ9_min_7cf53_5 : decode cJ9_min_7cf53 5 = .ok (.iload_n 0, 1) := by decide +kernel
theorem dJ9_min_7cf53_6 : decode cJ9_min_7cf53 6 = .ok (.goto 4, 3) := by decide +kernel
theorem dJ9_min_7cf53_9 : decode cJ9_min_7cf53 9 = .ok (.iload_n 1, 1) := by decide +kernel
theorem dJ9_min_7cf53_10 : decode cJ9_min_7cf53 10 = .ok (.ireturn, 1) := by decide +kernel
theorem dJ7_copyOf_59c91_0 : decode cJ7_copyOf_59c91 0 = .ok (.iload_n 1, 1) := by decide +kernel
theorem dJ7_copyOf_59c91_1 : decode cJ7_copyOf_59c91 1 = .ok (.aload_n 0, 1) := by decide +kernel
theorem dJ7_copyOf_59c91_2 : decode cJ7_copyOf_59c91 2 = .ok (.arraylength, 1) := by decide +kernel
theorem dJ7_copyOf_59c91_3 : decode cJ7_copyOf_59c91 3 = .ok (.if_icmp .ne 11, 3) := by decide +kernel
theorem dJ7_copyOf_59c91_6 : decode cJ7_copyOf_59c91 6 = .ok (.aload_n 0, 1) := by decide +kernel
theorem dJ7_copyOf_59c91_7 : decode cJ7_copyOf_59c91 7 = .ok (.invokevirtual 316, 3) := by decide +kernel
theorem dJ7_copyOf_59c91_10 : decode cJ7_copyOf_59c91 10 = .ok (.checkcast 317, 3) := by decide +kernel
theorem dJ7_copyOf_59c91_13 : decode cJ7_copyOf_59c91 13 = .ok (.areturn, 1) := by decide +kernel
theorem dJ7_copyOf_59c91_14 : decode cJ7_copyOf_59c91 14 = .ok (.iload_n 1, 1) := by decide +kernel
theorem dJ7_copyOf_59c91_15 : decode cJ7_copyOf_59c91 15 = .ok (.newarray .int, 2) := by decide +kernel
theorem dJ7_copyOf_59c91_17 : decode cJ7_copyOf_59c91 17 = .ok (.astore_n 2, 1) := by decide +kernel
theorem dJ7_copyOf_59c91_18 : decode cJ7_copyOf_59c91 18 = .ok (.aload_n 0, 1) := by decide +kernel
theorem dJ7_copyOf_59c91_19 : decode cJ7_copyOf_59c91 19 = .ok (.iconst 0, 1) := by decide +kernel
theorem dJ7_copyOf_59c91_20 : decode cJ7_copyOf_59c91 20 = .ok (.aload_n 2, 1) := by decide +kernel
theorem dJ7_copyOf_59c91_21 : decode cJ7_copyOf_59c91 21 = .ok (.iconst 0, 1) := by decide +kernel
theorem dJ7_copyOf_59c91_22 : decode cJ7_copyOf_59c91 22 = .ok (.aload_n 0, 1) := by decide +kernel
theorem dJ7_copyOf_59c91_23 : decode cJ7_copyOf_59c91 23 = .ok (.arraylength, 1) := by decide +kernel
theorem dJ7_copyOf_59c91_24 : decode cJ7_copyOf_59c91 24 = .ok (.iload_n 1, 1) := by decide +kernel
theorem dJ7_copyOf_59c91_25 : decode cJ7_copyOf_59c91 25 = .ok (.invokestatic 304, 3) := by decide +kernel
theorem dJ7_copyOf_59c91_28 : decode cJ7_copyOf_59c91 28 = .ok (.invokestatic 150, 3) := by decide +kernel
theorem dJ7_copyOf_59c91_31 : decode cJ7_copyOf_59c91 31 = .ok (.aload_n 2, 1) := by decide +kernel
theorem dJ7_copyOf_59c91_32 : decode cJ7_copyOf_59c91 32 = .ok (.areturn, 1) := by decide +kernel
theorem dL_cell_0 : decode cL_cell 0 = .ok (.iload_n 1, 1) := by decide +kernel
theorem dL_cell_1 : decode cL_cell 1 = .ok (.aload_n 0, 1) := by decide +kernel
theorem dL_cell_2 : decode cL_cell 2 = .ok (.arraylength, 1) := by decide +kernel
theorem dL_cell_3 : decode cL_cell 3 = .ok (.if_icmp .ge 9, 3) := by decide +kernel
theorem dL_cell_6 : decode cL_cell 6 = .ok (.aload_n 0, 1) := by decide +kernel
theorem dL_cell_7 : decode cL_cell 7 = .ok (.iload_n 1, 1) := by decide +kernel
theorem dL_cell_8 : decode cL_cell 8 = .ok (.iaload, 1) := by decide +kernel
theorem dL_cell_9 : decode cL_cell 9 = .ok (.goto 13, 3) := by decide +kernel
theorem dL_cell_12 : decode cL_cell 12 = .ok (.ldc 7, 2) := by decide +kernel
theorem dL_cell_14 : decode cL_cell 14 = .ok (.iload_n 1, 1) := by decide +kernel
theorem dL_cell_15 : decode cL_cell 15 = .ok (.bipush 13, 2) := by decide +kernel
theorem dL_cell_17 : decode cL_cell 17 = .ok (.iadd, 1) := by decide +kernel
theorem dL_cell_18 : decode cL_cell 18 = .ok (.imul, 1) := by decide +kernel
theorem dL_cell_19 : decode cL_cell 19 = .ok (.bipush 41, 2) := by decide +kernel
theorem dL_cell_21 : decode cL_cell 21 = .ok (.iadd, 1) := by decide +kernel
theorem dL_cell_22 : decode cL_cell 22 = .ok (.ldc 8, 2) := by decide +kernel
theorem dL_cell_24 : decode cL_cell 24 = .ok (.iand, 1) := by decide +kernel
theorem dL_cell_25 : decode cL_cell 25 = .ok (.ireturn, 1) := by decide +kernel
theorem dL_define_0 : decode cL_define 0 = .ok (.aload_n 0, 1) := by decide +kernel
theorem dL_define_1 : decode cL_define 1 = .ok (.iload_n 1, 1) := by decide +kernel
theorem dL_define_2 : decode cL_define 2 = .ok (.invokevirtual 9, 3) := by decide +kernel
theorem dL_define_5 : decode cL_define 5 = .ok (.ireturn, 1) := by decide +kernel
theorem dL_define_6 : decode cL_define 6 = .ok (.astore_n 2, 1) := by decide +kernel
theorem dL_define_7 : decode cL_define 7 = .ok (.bipush (-2), 2) := by decide +kernel
theorem dL_define_9 : decode cL_define 9 = .ok (.ireturn, 1) := by decide +kernel
theorem dL_define_10 : decode cL_define 10 = .ok (.astore_n 2, 1) := by decide +kernel
theorem dL_define_11 : decode cL_define 11 = .ok (.bipush (-3), 2) := by decide +kernel
theorem dL_define_13 : decode cL_define 13 = .ok (.ireturn, 1) := by decide +kernel
theorem dL_expand_0 : decode cL_expand 0 = .ok (.aload_n 0, 1) := by decide +kernel
theorem dL_expand_1 : decode cL_expand 1 = .ok (.invokevirtual 19, 3) := by decide +kernel
theorem dL_expand_4 : decode cL_expand 4 = .ok (.ireturn, 1) := by decide +kernel
theorem dL_expand_5 : decode cL_expand 5 = .ok (.astore_n 1, 1) := by decide +kernel
theorem dL_expand_6 : decode cL_expand 6 = .ok (.bipush (-2), 2) := by decide +kernel
theorem dL_expand_8 : decode cL_expand 8 = .ok (.ireturn, 1) := by decide +kernel
theorem dL_append_0 : decode cL_append 0 = .ok (.aload_n 0, 1) := by decide +kernel
theorem dL_append_1 : decode cL_append 1 = .ok (.iload_n 1, 1) := by decide +kernel
theorem dL_append_2 : decode cL_append 2 = .ok (.invokevirtual 23, 3) := by decide +kernel
theorem dL_append_5 : decode cL_append 5 = .ok (.ireturn, 1) := by decide +kernel
theorem dL_append_6 : decode cL_append 6 = .ok (.astore_n 2, 1) := by decide +kernel
theorem dL_append_7 : decode cL_append 7 = .ok (.bipush (-2), 2) := by decide +kernel
theorem dL_append_9 : decode cL_append 9 = .ok (.ireturn, 1) := by decide +kernel
theorem dL_append_10 : decode cL_append 10 = .ok (.astore_n 2, 1) := by decide +kernel
theorem dL_append_11 : decode cL_append 11 = .ok (.bipush (-3), 2) := by decide +kernel
theorem dL_append_13 : decode cL_append 13 = .ok (.ireturn, 1) := by decide +kernel
theorem dL_set_0 : decode cL_set 0 = .ok (.aload_n 0, 1) := by decide +kernel
theorem dL_set_1 : decode cL_set 1 = .ok (.iload_n 1, 1) := by decide +kernel
theorem dL_set_2 : decode cL_set 2 = .ok (.invokevirtual 28, 3) := by decide +kernel
theorem dL_set_5 : decode cL_set 5 = .ok (.ireturn, 1) := by decide +kernel
theorem dL_set_6 : decode cL_set 6 = .ok (.astore_n 2, 1) := by decide +kernel
theorem dL_set_7 : decode cL_set 7 = .ok (.bipush (-2), 2) := by decide +kernel
theorem dL_set_9 : decode cL_set 9 = .ok (.ireturn, 1) := by decide +kernel
theorem dL_remove_0 : decode cL_remove 0 = .ok (.aload_n 0, 1) := by decide +kernel
theorem dL_remove_1 : decode cL_remove 1 = .ok (.iload_n 1, 1) := by decide +kernel
theorem dL_remove_2 : decode cL_remove 2 = .ok (.invokevirtual 31, 3) := by decide +kernel
theorem dL_remove_5 : decode cL_remove 5 = .ok (.ireturn, 1) := by decide +kernel
theorem dL_remove_6 : decode cL_remove 6 = .ok (.astore_n 2, 1) := by decide +kernel
theorem dL_remove_7 : decode cL_remove 7 = .ok (.bipush (-3), 2) := by decide +kernel
theorem dL_remove_9 : decode cL_remove 9 = .ok (.ireturn, 1) := by decide +kernel
theorem dL_remove_10 : decode cL_remove 10 = .ok (.astore_n 2, 1) := by decide +kernel
theorem dL_remove_11 : decode cL_remove 11 = .ok (.bipush (-2), 2) := by decide +kernel
theorem dL_remove_13 : decode cL_remove 13 = .ok (.ireturn, 1) := by decide +kernel
theorem dL_sign_0 : decode cL_sign 0 = .ok (.aload_n 0, 1) := by decide +kernel
theorem dL_sign_1 : decode cL_sign 1 = .ok (.iload_n 1, 1) := by decide +kernel
theorem dL_sign_2 : decode cL_sign 2 = .ok (.invokevirtual 34, 3) := by decide +kernel
theorem dL_sign_5 : decode cL_sign 5 = .ok (.ireturn, 1) := by decide +kernel
theorem dL_sign_6 : decode cL_sign 6 = .ok (.astore_n 2, 1) := by decide +kernel
theorem dL_sign_7 : decode cL_sign 7 = .ok (.bipush (-2), 2) := by decide +kernel
theorem dL_sign_9 : decode cL_sign 9 = .ok (.ireturn, 1) := by decide +kernel
theorem dL_result_0 : decode cL_result 0 = .ok (.aload_n 0, 1) := by decide +kernel
theorem dL_result_1 : decode cL_result 1 = .ok (.iload_n 1, 1) := by decide +kernel
theorem dL_result_2 : decode cL_result 2 = .ok (.invokevirtual 37, 3) := by decide +kernel
theorem dL_result_5 : decode cL_result 5 = .ok (.ireturn, 1) := by decide +kernel
theorem dL_result_6 : decode cL_result 6 = .ok (.astore_n 2, 1) := by decide +kernel
theorem dL_result_7 : decode cL_result 7 = .ok (.bipush (-2), 2) := by decide +kernel
theorem dL_result_9 : decode cL_result 9 = .ok (.ireturn, 1) := by decide +kernel
theorem dL_count_0 : decode cL_count 0 = .ok (.aload_n 0, 1) := by decide +kernel
theorem dL_count_1 : decode cL_count 1 = .ok (.iload_n 1, 1) := by decide +kernel
theorem dL_count_2 : decode cL_count 2 = .ok (.invokevirtual 40, 3) := by decide +kernel
theorem dL_count_5 : decode cL_count 5 = .ok (.ireturn, 1) := by decide +kernel
theorem dL_count_6 : decode cL_count 6 = .ok (.astore_n 2, 1) := by decide +kernel
theorem dL_count_7 : decode cL_count 7 = .ok (.bipush (-2), 2) := by decide +kernel
theorem dL_count_9 : decode cL_count 9 = .ok (.ireturn, 1) := by decide +kernel
theorem dL_body_0 : decode cL_body 0 = .ok (.aload_n 0, 1) := by decide +kernel
theorem dL_body_1 : decode cL_body 1 = .ok (.iload_n 1, 1) := by decide +kernel
theorem dL_body_2 : decode cL_body 2 = .ok (.iload_n 2, 1) := by decide +kernel
theorem dL_body_3 : decode cL_body 3 = .ok (.invokevirtual 43, 3) := by decide +kernel
theorem dL_body_6 : decode cL_body 6 = .ok (.ireturn, 1) := by decide +kernel
theorem dL_body_7 : decode cL_body 7 = .ok (.astore_n 3, 1) := by decide +kernel
theorem dL_body_8 : decode cL_body 8 = .ok (.bipush (-3), 2) := by decide +kernel
theorem dL_body_10 : decode cL_body 10 = .ok (.ireturn, 1) := by decide +kernel
theorem dL_body_11 : decode cL_body 11 = .ok (.astore_n 3, 1) := by decide +kernel
theorem dL_body_12 : decode cL_body 12 = .ok (.bipush (-2), 2) := by decide +kernel
theorem dL_body_14 : decode cL_body 14 = .ok (.ireturn, 1) := by decide +kernel
theorem dL_uses_0 : decode cL_uses 0 = .ok (.aload_n 0, 1) := by decide +kernel
theorem dL_uses_1 : decode cL_uses 1 = .ok (.iload_n 1, 1) := by decide +kernel
theorem dL_uses_2 : decode cL_uses 2 = .ok (.iload_n 2, 1) := by decide +kernel
theorem dL_uses_3 : decode cL_uses 3 = .ok (.invokevirtual 47, 3) := by decide +kernel
theorem dL_uses_6 : decode cL_uses 6 = .ok (.ireturn, 1) := by decide +kernel
theorem dL_uses_7 : decode cL_uses 7 = .ok (.astore_n 3, 1) := by decide +kernel
theorem dL_uses_8 : decode cL_uses 8 = .ok (.bipush (-3), 2) := by decide +kernel
theorem dL_uses_10 : decode cL_uses 10 = .ok (.ireturn, 1) := by decide +kernel
theorem dL_uses_11 : decode cL_uses 11 = .ok (.astore_n 3, 1) := by decide +kernel
theorem dL_uses_12 : decode cL_uses 12 = .ok (.bipush (-2), 2) := by decide +kernel
theorem dL_uses_14 : decode cL_uses 14 = .ok (.ireturn, 1) := by decide +kernel
theorem dL_chain_0 : decode cL_chain 0 = .ok (.aload_n 0, 1) := by decide +kernel
theorem dL_chain_1 : decode cL_chain 1 = .ok (.iload_n 1, 1) := by decide +kernel
theorem dL_chain_2 : decode cL_chain 2 = .ok (.invokevirtual 50, 3) := by decide +kernel
theorem dL_chain_5 : decode cL_chain 5 = .ok (.ireturn, 1) := by decide +kernel
theorem dL_chain_6 : decode cL_chain 6 = .ok (.astore_n 2, 1) := by decide +kernel
theorem dL_chain_7 : decode cL_chain 7 = .ok (.bipush (-3), 2) := by decide +kernel
theorem dL_chain_9 : decode cL_chain 9 = .ok (.ireturn, 1) := by decide +kernel
theorem dL_ifDefined_0 : decode cL_ifDefined 0 = .ok (.aload_n 0, 1) := by decide +kernel
theorem dL_ifDefined_1 : decode cL_ifDefined 1 = .ok (.iload_n 1, 1) := by decide +kernel
theorem dL_ifDefined_2 : decode cL_ifDefined 2 = .ok (.invokevirtual 53, 3) := by decide +kernel
theorem dL_ifDefined_5 : decode cL_ifDefined 5 = .ok (.ireturn, 1) := by decide +kernel
theorem dL_ifDefined_6 : decode cL_ifDefined 6 = .ok (.astore_n 2, 1) := by decide +kernel
theorem dL_ifDefined_7 : decode cL_ifDefined 7 = .ok (.bipush (-3), 2) := by decide +kernel
theorem dL_ifDefined_9 : decode cL_ifDefined 9 = .ok (.ireturn, 1) := by decide +kernel
theorem dL_ifDefined_10 : decode cL_ifDefined 10 = .ok (.astore_n 2, 1) := by decide +kernel
theorem dL_ifDefined_11 : decode cL_ifDefined 11 = .ok (.bipush (-2), 2) := by decide +kernel
theorem dL_ifDefined_13 : decode cL_ifDefined 13 = .ok (.ireturn, 1) := by decide +kernel
theorem dL_exchange_0 : decode cL_exchange 0 = .ok (.aload_n 0, 1) := by decide +kernel
theorem dL_exchange_1 : decode cL_exchange 1 = .ok (.iload_n 1, 1) := by decide +kernel
theorem dL_exchange_2 : decode cL_exchange 2 = .ok (.iload_n 2, 1) := by decide +kernel
theorem dL_exchange_3 : decode cL_exchange 3 = .ok (.invokevirtual 56, 3) := by decide +kernel
theorem dL_exchange_6 : decode cL_exchange 6 = .ok (.ireturn, 1) := by decide +kernel
theorem dL_exchange_7 : decode cL_exchange 7 = .ok (.astore_n 3, 1) := by decide +kernel
theorem dL_exchange_8 : decode cL_exchange 8 = .ok (.bipush (-3), 2) := by decide +kernel
theorem dL_exchange_10 : decode cL_exchange 10 = .ok (.ireturn, 1) := by decide +kernel
theorem dL_trace_0 : decode cL_trace 0 = .ok (.aload_n 0, 1) := by decide +kernel
theorem dL_trace_1 : decode cL_trace 1 = .ok (.iload_n 1, 1) := by decide +kernel
theorem dL_trace_2 : decode cL_trace 2 = .ok (.iload_n 2, 1) := by decide +kernel
theorem dL_trace_3 : decode cL_trace 3 = .ok (.invokevirtual 59, 3) := by decide +kernel
theorem dL_trace_6 : decode cL_trace 6 = .ok (.ireturn, 1) := by decide +kernel
theorem dL_trace_7 : decode cL_trace 7 = .ok (.astore_n 3, 1) := by decide +kernel
theorem dL_trace_8 : decode cL_trace 8 = .ok (.bipush (-2), 2) := by decide +kernel
theorem dL_trace_10 : decode cL_trace 10 = .ok (.ireturn, 1) := by decide +kernel
theorem dL_lengthOf_0 : decode cL_lengthOf 0 = .ok (.aload_n 0, 1) := by decide +kernel
theorem dL_lengthOf_1 : decode cL_lengthOf 1 = .ok (.iload_n 1, 1) := by decide +kernel
theorem dL_lengthOf_2 : decode cL_lengthOf 2 = .ok (.iload_n 2, 1) := by decide +kernel
theorem dL_lengthOf_3 : decode cL_lengthOf 3 = .ok (.invokevirtual 62, 3) := by decide +kernel
theorem dL_lengthOf_6 : decode cL_lengthOf 6 = .ok (.ireturn, 1) := by decide +kernel
theorem dL_lengthOf_7 : decode cL_lengthOf 7 = .ok (.astore_n 3, 1) := by decide +kernel
theorem dL_lengthOf_8 : decode cL_lengthOf 8 = .ok (.bipush (-3), 2) := by decide +kernel
theorem dL_lengthOf_10 : decode cL_lengthOf 10 = .ok (.ireturn, 1) := by decide +kernel
theorem dL_lengthOf_11 : decode cL_lengthOf 11 = .ok (.astore_n 3, 1) := by decide +kernel
theorem dL_lengthOf_12 : decode cL_lengthOf 12 = .ok (.bipush (-2), 2) := by decide +kernel
theorem dL_lengthOf_14 : decode cL_lengthOf 14 = .ok (.ireturn, 1) := by decide +kernel
theorem dL_load_0 : decode cL_load 0 = .ok (.aload_n 0, 1) := by decide +kernel
theorem dL_load_1 : decode cL_load 1 = .ok (.iload_n 1, 1) := by decide +kernel
theorem dL_load_2 : decode cL_load 2 = .ok (.invokevirtual 65, 3) := by decide +kernel
theorem dL_load_5 : decode cL_load 5 = .ok (.ireturn, 1) := by decide +kernel
theorem dL_load_6 : decode cL_load 6 = .ok (.astore_n 2, 1) := by decide +kernel
theorem dL_load_7 : decode cL_load 7 = .ok (.bipush (-3), 2) := by decide +kernel
theorem dL_load_9 : decode cL_load 9 = .ok (.ireturn, 1) := by decide +kernel
theorem dL_load_10 : decode cL_load 10 = .ok (.astore_n 2, 1) := by decide +kernel
theorem dL_load_11 : decode cL_load 11 = .ok (.bipush (-2), 2) := by decide +kernel
theorem dL_load_13 : decode cL_load 13 = .ok (.ireturn, 1) := by decide +kernel
theorem dL_undo_0 : decode cL_undo 0 = .ok (.aload_n 0, 1) := by decide +kernel
theorem dL_undo_1 : decode cL_undo 1 = .ok (.invokevirtual 68, 3) := by decide +kernel
theorem dL_undo_4 : decode cL_undo 4 = .ok (.ireturn, 1) := by decide +kernel
theorem dL_undo_5 : decode cL_undo 5 = .ok (.astore_n 1, 1) := by decide +kernel
theorem dL_undo_6 : decode cL_undo 6 = .ok (.bipush (-2), 2) := by decide +kernel
theorem dL_undo_8 : decode cL_undo 8 = .ok (.ireturn, 1) := by decide +kernel
theorem dL_keep_0 : decode cL_keep 0 = .ok (.aload_n 0, 1) := by decide +kernel
theorem dL_keep_1 : decode cL_keep 1 = .ok (.iload_n 1, 1) := by decide +kernel
theorem dL_keep_2 : decode cL_keep 2 = .ok (.invokevirtual 71, 3) := by decide +kernel
theorem dL_keep_5 : decode cL_keep 5 = .ok (.ireturn, 1) := by decide +kernel
theorem dL_keep_6 : decode cL_keep 6 = .ok (.astore_n 2, 1) := by decide +kernel
theorem dL_keep_7 : decode cL_keep 7 = .ok (.bipush (-2), 2) := by decide +kernel
theorem dL_keep_9 : decode cL_keep 9 = .ok (.ireturn, 1) := by decide +kernel
theorem dL_goBack_0 : decode cL_goBack 0 = .ok (.aload_n 0, 1) := by decide +kernel
theorem dL_goBack_1 : decode cL_goBack 1 = .ok (.iload_n 1, 1) := by decide +kernel
theorem dL_goBack_2 : decode cL_goBack 2 = .ok (.invokevirtual 74, 3) := by decide +kernel
theorem dL_goBack_5 : decode cL_goBack 5 = .ok (.ireturn, 1) := by decide +kernel
theorem dL_goBack_6 : decode cL_goBack 6 = .ok (.astore_n 2, 1) := by decide +kernel
theorem dL_goBack_7 : decode cL_goBack 7 = .ok (.bipush (-2), 2) := by decide +kernel
theorem dL_goBack_9 : decode cL_goBack 9 = .ok (.ireturn, 1) := by decide +kernel
theorem dL_goBack_10 : decode cL_goBack 10 = .ok (.astore_n 2, 1) := by decide +kernel
theorem dL_goBack_11 : decode cL_goBack 11 = .ok (.bipush (-3), 2) := by decide +kernel
theorem dL_goBack_13 : decode cL_goBack 13 = .ok (.ireturn, 1) := by decide +kernel
theorem dL_typed_0 : decode cL_typed 0 = .ok (.aload_n 0, 1) := by decide +kernel
theorem dL_typed_1 : decode cL_typed 1 = .ok (.invokevirtual 77, 3) := by decide +kernel
theorem dL_typed_4 : decode cL_typed 4 = .ok (.ifCond .ge 8, 3) := by decide +kernel
theorem dL_typed_7 : decode cL_typed 7 = .ok (.bipush (-9), 2) := by decide +kernel
theorem dL_typed_9 : decode cL_typed 9 = .ok (.goto 4, 3) := by decide +kernel
theorem dL_typed_12 : decode cL_typed 12 = .ok (.iconst 0, 1) := by decide +kernel
theorem dL_typed_13 : decode cL_typed 13 = .ok (.istore_n 2, 1) := by decide +kernel
theorem dL_typed_14 : decode cL_typed 14 = .ok (.iconst 0, 1) := by decide +kernel
theorem dL_typed_15 : decode cL_typed 15 = .ok (.istore_n 3, 1) := by decide +kernel
theorem dL_typed_16 : decode cL_typed 16 = .ok (.iconst 0, 1) := by decide +kernel
theorem dL_typed_17 : decode cL_typed 17 = .ok (.istore 4, 2) := by decide +kernel
theorem dL_typed_19 : decode cL_typed 19 = .ok (.iconst 0, 1) := by decide +kernel
theorem dL_typed_20 : decode cL_typed 20 = .ok (.istore 5, 2) := by decide +kernel
theorem dL_typed_22 : decode cL_typed 22 = .ok (.iload 5, 2) := by decide +kernel
theorem dL_typed_24 : decode cL_typed 24 = .ok (.bipush 9, 2) := by decide +kernel
theorem dL_typed_26 : decode cL_typed 26 = .ok (.if_icmp .ge 175, 3) := by decide +kernel
theorem dL_typed_29 : decode cL_typed 29 = .ok (.iload_n 2, 1) := by decide +kernel
theorem dL_typed_30 : decode cL_typed 30 = .ok (.ifCond .lt 171, 3) := by decide +kernel
theorem dL_typed_33 : decode cL_typed 33 = .ok (.iload_n 1, 1) := by decide +kernel
theorem dL_typed_34 : decode cL_typed 34 = .ok (.iconst 3, 1) := by decide +kernel
theorem dL_typed_35 : decode cL_typed 35 = .ok (.iload 5, 2) := by decide +kernel
theorem dL_typed_37 : decode cL_typed 37 = .ok (.imul, 1) := by decide +kernel
theorem dL_typed_38 : decode cL_typed 38 = .ok (.ishr, 1) := by decide +kernel
theorem dL_typed_39 : decode cL_typed 39 = .ok (.bipush 31, 2) := by decide +kernel
theorem dL_typed_41 : decode cL_typed 41 = .ok (.iand, 1) := by decide +kernel
theorem dL_typed_42 : decode cL_typed 42 = .ok (.istore 6, 2) := by decide +kernel
theorem dL_typed_44 : decode cL_typed 44 = .ok (.iload 6, 2) := by decide +kernel
theorem dL_typed_46 : decode cL_typed 46 = .ok (.bipush 8, 2) := by decide +kernel
theorem dL_typed_48 : decode cL_typed 48 = .ok (.if_icmp .ge 39, 3) := by decide +kernel
theorem dL_typed_51 : decode cL_typed 51 = .ok (.aload_n 0, 1) := by decide +kernel
theorem dL_typed_52 : decode cL_typed 52 = .ok (.iload 6, 2) := by decide +kernel
theorem dL_typed_54 : decode cL_typed 54 = .ok (.iconst 4, 1) := by decide +kernel
theorem dL_typed_55 : decode cL_typed 55 = .ok (.if_icmp .ge 11, 3) := by decide +kernel
theorem dL_typed_58 : decode cL_typed 58 = .ok (.bipush 97, 2) := by decide +kernel
theorem dL_typed_60 : decode cL_typed 60 = .ok (.iload 6, 2) := by decide +kernel
theorem dL_typed_62 : decode cL_typed 62 = .ok (.iadd, 1) := by decide +kernel
theorem dL_typed_63 : decode cL_typed 63 = .ok (.goto 17, 3) := by decide +kernel
theorem dL_typed_66 : decode cL_typed 66 = .ok (.iload 6, 2) := by decide +kernel
theorem dL_typed_68 : decode cL_typed 68 = .ok (.bipush 6, 2) := by decide +kernel
theorem dL_typed_70 : decode cL_typed 70 = .ok (.if_icmp .ge 8, 3) := by decide +kernel
theorem dL_typed_73 : decode cL_typed 73 = .ok (.bipush 63, 2) := by decide +kernel
theorem dL_typed_75 : decode cL_typed 75 = .ok (.goto 5, 3) := by decide +kernel
theorem dL_typed_78 : decode cL_typed 78 = .ok (.bipush 95, 2) := by decide +kernel
theorem dL_typed_80 : decode cL_typed 80 = .ok (.invokestatic 80, 3) := by decide +kernel
theorem dL_typed_83 : decode cL_typed 83 = .ok (.istore_n 2, 1) := by decide +kernel
theorem dL_typed_84 : decode cL_typed 84 = .ok (.goto 111, 3) := by decide +kernel
theorem dL_typed_87 : decode cL_typed 87 = .ok (.iload 6, 2) := by decide +kernel
theorem dL_typed_89 : decode cL_typed 89 = .ok (.bipush 16, 2) := by decide +kernel
theorem dL_typed_91 : decode cL_typed 91 = .ok (.if_icmp .ge 19, 3) := by decide +kernel
theorem dL_typed_94 : decode cL_typed 94 = .ok (.aload_n 0, 1) := by decide +kernel
theorem dL_typed_95 : decode cL_typed 95 = .ok (.bipush 65, 2) := by decide +kernel
theorem dL_typed_97 : decode cL_typed 97 = .ok (.iload 6, 2) := by decide +kernel
theorem dL_typed_99 : decode cL_typed 99 = .ok (.bipush 6, 2) := by decide +kernel
theorem dL_typed_101 : decode cL_typed 101 = .ok (.irem, 1) := by decide +kernel
theorem dL_typed_102 : decode cL_typed 102 = .ok (.iadd, 1) := by decide +kernel
theorem dL_typed_103 : decode cL_typed 103 = .ok (.invokestatic 80, 3) := by decide +kernel
theorem dL_typed_106 : decode cL_typed 106 = .ok (.istore_n 2, 1) := by decide +kernel
theorem dL_typed_107 : decode cL_typed 107 = .ok (.goto 88, 3) := by decide +kernel
theorem dL_typed_110 : decode cL_typed 110 = .ok (.iload 6, 2) := by decide +kernel
theorem dL_typed_112 : decode cL_typed 112 = .ok (.bipush 24, 2) := by decide +kernel
theorem dL_typed_114 : decode cL_typed 114 = .ok (.if_icmp .ge 32, 3) := by decide +kernel
theorem dL_typed_117 : decode cL_typed 117 = .ok (.aload_n 0, 1) := by decide +kernel
theorem dL_typed_118 : decode cL_typed 118 = .ok (.bipush 65, 2) := by decide +kernel
theorem dL_typed_120 : decode cL_typed 120 = .ok (.iload 6, 2) := by decide +kernel
theorem dL_typed_122 : decode cL_typed 122 = .ok (.bipush 6, 2) := by decide +kernel
theorem dL_typed_124 : decode cL_typed 124 = .ok (.irem, 1) := by decide +kernel
theorem dL_typed_125 : decode cL_typed 125 = .ok (.iadd, 1) := by decide +kernel
theorem dL_typed_126 : decode cL_typed 126 = .ok (.invokestatic 80, 3) := by decide +kernel
theorem dL_typed_129 : decode cL_typed 129 = .ok (.istore_n 2, 1) := by decide +kernel
theorem dL_typed_130 : decode cL_typed 130 = .ok (.aload_n 0, 1) := by decide +kernel
theorem dL_typed_131 : decode cL_typed 131 = .ok (.bipush 40, 2) := by decide +kernel
theorem dL_typed_133 : decode cL_typed 133 = .ok (.invokestatic 80, 3) := by decide +kernel
theorem dL_typed_136 : decode cL_typed 136 = .ok (.istore_n 2, 1) := by decide +kernel
theorem dL_typed_137 : decode cL_typed 137 = .ok (.iinc 3 1, 3) := by decide +kernel
theorem dL_typed_140 : decode cL_typed 140 = .ok (.iconst 1, 1) := by decide +kernel
theorem dL_typed_141 : decode cL_typed 141 = .ok (.istore 4, 2) := by decide +kernel
theorem dL_typed_143 : decode cL_typed 143 = .ok (.goto 52, 3) := by decide +kernel
theorem dL_typed_146 : decode cL_typed 146 = .ok (.iload 6, 2) := by decide +kernel
theorem dL_typed_148 : decode cL_typed 148 = .ok (.bipush 28, 2) := by decide +kernel
theorem dL_typed_150 : decode cL_typed 150 = .ok (.if_icmp .ge 27, 3) := by decide +kernel
theorem dL_typed_153 : decode cL_typed 153 = .ok (.iload_n 3, 1) := by decide +kernel
theorem dL_typed_154 : decode cL_typed 154 = .ok (.ifCond .le 23, 3) := by decide +kernel
theorem dL_typed_157 : decode cL_typed 157 = .ok (.iload 4, 2) := by decide +kernel
theorem dL_typed_159 : decode cL_typed 159 = .ok (.bipush 6, 2) := by decide +kernel
theorem dL_typed_161 : decode cL_typed 161 = .ok (.if_icmp .ge 16, 3) := by decide +kernel
theorem dL_typed_164 : decode cL_typed 164 = .ok (.aload_n 0, 1) := by decide +kernel
theorem dL_typed_165 : decode cL_typed 165 = .ok (.bipush 44, 2) := by decide +kernel
theorem dL_typed_167 : decode cL_typed 167 = .ok (.invokestatic 80, 3) := by decide +kernel
theorem dL_typed_170 : decode cL_typed 170 = .ok (.istore_n 2, 1) := by decide +kernel
theorem dL_typed_171 : decode cL_typed 171 = .ok (.iinc 4 1, 3) := by decide +kernel
theorem dL_typed_174 : decode cL_typed 174 = .ok (.goto 21, 3) := by decide +kernel
theorem dL_typed_177 : decode cL_typed 177 = .ok (.iload_n 3, 1) := by decide +kernel
theorem dL_typed_178 : decode cL_typed 178 = .ok (.ifCond .le 17, 3) := by decide +kernel
theorem dL_typed_181 : decode cL_typed 181 = .ok (.aload_n 0, 1) := by decide +kernel
theorem dL_typed_182 : decode cL_typed 182 = .ok (.bipush 41, 2) := by decide +kernel
theorem dL_typed_184 : decode cL_typed 184 = .ok (.invokestatic 80, 3) := by decide +kernel
theorem dL_typed_187 : decode cL_typed 187 = .ok (.istore_n 2, 1) := by decide +kernel
theorem dL_typed_188 : decode cL_typed 188 = .ok (.iinc 3 (-1), 3) := by decide +kernel
theorem dL_typed_191 : decode cL_typed 191 = .ok (.bipush 6, 2) := by decide +kernel
theorem dL_typed_193 : decode cL_typed 193 = .ok (.istore 4, 2) := by decide +kernel
theorem dL_typed_195 : decode cL_typed 195 = .ok (.iinc 5 1, 3) := by decide +kernel
theorem dL_typed_198 : decode cL_typed 198 = .ok (.goto (-176), 3) := by decide +kernel
theorem dL_typed_201 : decode cL_typed 201 = .ok (.iload_n 3, 1) := by decide +kernel
theorem dL_typed_202 : decode cL_typed 202 = .ok (.ifCond .le 20, 3) := by decide +kernel
theorem dL_typed_205 : decode cL_typed 205 = .ok (.iload_n 2, 1) := by decide +kernel
theorem dL_typed_206 : decode cL_typed 206 = .ok (.ifCond .lt 16, 3) := by decide +kernel
theorem dL_typed_209 : decode cL_typed 209 = .ok (.aload_n 0, 1) := by decide +kernel
theorem dL_typed_210 : decode cL_typed 210 = .ok (.bipush 41, 2) := by decide +kernel
theorem dL_typed_212 : decode cL_typed 212 = .ok (.invokestatic 80, 3) := by decide +kernel
theorem dL_typed_215 : decode cL_typed 215 = .ok (.istore_n 2, 1) := by decide +kernel
theorem dL_typed_216 : decode cL_typed 216 = .ok (.iinc 3 (-1), 3) := by decide +kernel
theorem dL_typed_219 : decode cL_typed 219 = .ok (.goto (-18), 3) := by decide +kernel
theorem dL_typed_222 : decode cL_typed 222 = .ok (.iload_n 2, 1) := by decide +kernel
theorem dL_typed_223 : decode cL_typed 223 = .ok (.ireturn, 1) := by decide +kernel
theorem dL_acts_0 : decode cL_acts 0 = .ok (.iload_n 1, 1) := by decide +kernel
theorem dL_acts_1 : decode cL_acts 1 = .ok (.bipush 16, 2) := by decide +kernel
theorem dL_acts_3 : decode cL_acts 3 = .ok (.idiv, 1) := by decide +kernel
theorem dL_acts_4 : decode cL_acts 4 = .ok (.istore_n 2, 1) := by decide +kernel
theorem dL_acts_5 : decode cL_acts 5 = .ok (.iload_n 1, 1) := by decide +kernel
theorem dL_acts_6 : decode cL_acts 6 = .ok (.bipush 16, 2) := by decide +kernel
theorem dL_acts_8 : decode cL_acts 8 = .ok (.irem, 1) := by decide +kernel
theorem dL_acts_9 : decode cL_acts 9 = .ok (.tableswitch 140 0 10 #[59, 68, 84, 95, 100, 108, 116, 116, 116, 116, 116], 59) := by decide +kernel
theorem dL_acts_68 : decode cL_acts 68 = .ok (.aload_n 0, 1) := by decide +kernel
theorem dL_acts_69 : decode cL_acts 69 = .ok (.iload_n 2, 1) := by decide +kernel
theorem dL_acts_70 : decode cL_acts 70 = .ok (.bipush 6, 2) := by decide +kernel
theorem dL_acts_72 : decode cL_acts 72 = .ok (.irem, 1) := by decide +kernel
theorem dL_acts_73 : decode cL_acts 73 = .ok (.invokestatic 85, 3) := by decide +kernel
theorem dL_acts_76 : decode cL_acts 76 = .ok (.ireturn, 1) := by decide +kernel
theorem dL_acts_77 : decode cL_acts 77 = .ok (.aload_n 0, 1) := by decide +kernel
theorem dL_acts_78 : decode cL_acts 78 = .ok (.iload_n 2, 1) := by decide +kernel
theorem dL_acts_79 : decode cL_acts 79 = .ok (.bipush 6, 2) := by decide +kernel
theorem dL_acts_81 : decode cL_acts 81 = .ok (.irem, 1) := by decide +kernel
theorem dL_acts_82 : decode cL_acts 82 = .ok (.iload_n 2, 1) := by decide +kernel
theorem dL_acts_83 : decode cL_acts 83 = .ok (.bipush 6, 2) := by decide +kernel
theorem dL_acts_85 : decode cL_acts 85 = .ok (.idiv, 1) := by decide +kernel
theorem dL_acts_86 : decode cL_acts 86 = .ok (.bipush 6, 2) := by decide +kernel
theorem dL_acts_88 : decode cL_acts 88 = .ok (.irem, 1) := by decide +kernel
theorem dL_acts_89 : decode cL_acts 89 = .ok (.invokestatic 87, 3) := by decide +kernel
theorem dL_acts_92 : decode cL_acts 92 = .ok (.ireturn, 1) := by decide +kernel
theorem dL_acts_93 : decode cL_acts 93 = .ok (.aload_n 0, 1) := by decide +kernel
theorem dL_acts_94 : decode cL_acts 94 = .ok (.iconst 1, 1) := by decide +kernel
theorem dL_acts_95 : decode cL_acts 95 = .ok (.iload_n 2, 1) := by decide +kernel
theorem dL_acts_96 : decode cL_acts 96 = .ok (.bipush 12, 2) := by decide +kernel
theorem dL_acts_98 : decode cL_acts 98 = .ok (.irem, 1) := by decide +kernel
theorem dL_acts_99 : decode cL_acts 99 = .ok (.iadd, 1) := by decide +kernel
theorem dL_acts_100 : decode cL_acts 100 = .ok (.invokestatic 90, 3) := by decide +kernel
theorem dL_acts_103 : decode cL_acts 103 = .ok (.ireturn, 1) := by decide +kernel
theorem dL_acts_104 : decode cL_acts 104 = .ok (.aload_n 0, 1) := by decide +kernel
theorem dL_acts_105 : decode cL_acts 105 = .ok (.invokestatic 92, 3) := by decide +kernel
theorem dL_acts_108 : decode cL_acts 108 = .ok (.ireturn, 1) := by decide +kernel
theorem dL_acts_109 : decode cL_acts 109 = .ok (.aload_n 0, 1) := by decide +kernel
theorem dL_acts_110 : decode cL_acts 110 = .ok (.iload_n 2, 1) := by decide +kernel
theorem dL_acts_111 : decode cL_acts 111 = .ok (.iconst 2, 1) := by decide +kernel
theorem dL_acts_112 : decode cL_acts 112 = .ok (.irem, 1) := by decide +kernel
theorem dL_acts_113 : decode cL_acts 113 = .ok (.invokestatic 95, 3) := by decide +kernel
theorem dL_acts_116 : decode cL_acts 116 = .ok (.ireturn, 1) := by decide +kernel
theorem dL_acts_117 : decode cL_acts 117 = .ok (.aload_n 0, 1) := by decide +kernel
theorem dL_acts_118 : decode cL_acts 118 = .ok (.iload_n 2, 1) := by decide +kernel
theorem dL_acts_119 : decode cL_acts 119 = .ok (.iconst 2, 1) := by decide +kernel
theorem dL_acts_120 : decode cL_acts 120 = .ok (.irem, 1) := by decide +kernel
theorem dL_acts_121 : decode cL_acts 121 = .ok (.invokestatic 97, 3) := by decide +kernel
theorem dL_acts_124 : decode cL_acts 124 = .ok (.ireturn, 1) := by decide +kernel
theorem dL_acts_125 : decode cL_acts 125 = .ok (.aload_n 0, 1) := by decide +kernel
theorem dL_acts_126 : decode cL_acts 126 = .ok (.iload_n 2, 1) := by decide +kernel
theorem dL_acts_127 : decode cL_acts 127 = .ok (.invokestatic 99, 3) := by decide +kernel
theorem dL_acts_130 : decode cL_acts 130 = .ok (.istore_n 3, 1) := by decide +kernel
theorem dL_acts_131 : decode cL_acts 131 = .ok (.iload_n 3, 1) := by decide +kernel
theorem dL_acts_132 : decode cL_acts 132 = .ok (.ifCond .ge 8, 3) := by decide +kernel
theorem dL_acts_135 : decode cL_acts 135 = .ok (.bipush (-9), 2) := by decide +kernel
theorem dL_acts_137 : decode cL_acts 137 = .ok (.goto 11, 3) := by decide +kernel
theorem dL_acts_140 : decode cL_acts 140 = .ok (.aload_n 0, 1) := by decide +kernel
theorem dL_acts_141 : decode cL_acts 141 = .ok (.iload_n 2, 1) := by decide +kernel
theorem dL_acts_142 : decode cL_acts 142 = .ok (.bipush 6, 2) := by decide +kernel
theorem dL_acts_144 : decode cL_acts 144 = .ok (.irem, 1) := by decide +kernel
theorem dL_acts_145 : decode cL_acts 145 = .ok (.invokestatic 102, 3) := by decide +kernel
theorem dL_acts_148 : decode cL_acts 148 = .ok (.ireturn, 1) := by decide +kernel
theorem dL_acts_149 : decode cL_acts 149 = .ok (.aload_n 0, 1) := by decide +kernel
theorem dL_acts_150 : decode cL_acts 150 = .ok (.iload_n 2, 1) := by decide +kernel
theorem dL_acts_151 : decode cL_acts 151 = .ok (.invokestatic 99, 3) := by decide +kernel
theorem dL_acts_154 : decode cL_acts 154 = .ok (.istore 4, 2) := by decide +kernel
theorem dL_acts_156 : decode cL_acts 156 = .ok (.iload 4, 2) := by decide +kernel
theorem dL_acts_158 : decode cL_acts 158 = .ok (.ifCond .ge 8, 3) := by decide +kernel
theorem dL_acts_161 : decode cL_acts 161 = .ok (.bipush (-9), 2) := by decide +kernel
theorem dL_acts_163 : decode cL_acts 163 = .ok (.goto 7, 3) := by decide +kernel
theorem dL_acts_166 : decode cL_acts 166 = .ok (.aload_n 0, 1) := by decide +kernel
theorem dL_acts_167 : decode cL_acts 167 = .ok (.invokestatic 104, 3) := by decide +kernel
theorem dL_acts_170 : decode cL_acts 170 = .ok (.ireturn, 1) := by decide +kernel
theorem dL_hangs_0 : decode cL_hangs 0 = .ok (.aload_n 0, 1) := by decide +kernel
theorem dL_hangs_1 : decode cL_hangs 1 = .ok (.iconst 0, 1) := by decide +kernel
theorem dL_hangs_2 : decode cL_hangs 2 = .ok (.invokestatic 106, 3) := by decide +kernel
theorem dL_hangs_5 : decode cL_hangs 5 = .ok (.istore_n 1, 1) := by decide +kernel
theorem dL_hangs_6 : decode cL_hangs 6 = .ok (.aload_n 0, 1) := by decide +kernel
theorem dL_hangs_7 : decode cL_hangs 7 = .ok (.bipush 7, 2) := by decide +kernel
theorem dL_hangs_9 : decode cL_hangs 9 = .ok (.invokestatic 106, 3) := by decide +kernel
theorem dL_hangs_12 : decode cL_hangs 12 = .ok (.istore_n 2, 1) := by decide +kernel
theorem dL_hangs_13 : decode cL_hangs 13 = .ok (.aload_n 0, 1) := by decide +kernel
theorem dL_hangs_14 : decode cL_hangs 14 = .ok (.iconst 5, 1) := by decide +kernel
theorem dL_hangs_15 : decode cL_hangs 15 = .ok (.invokestatic 106, 3) := by decide +kernel
theorem dL_hangs_18 : decode cL_hangs 18 = .ok (.istore_n 3, 1) := by decide +kernel
theorem dL_hangs_19 : decode cL_hangs 19 = .ok (.iconst 0, 1) := by decide +kernel
theorem dL_hangs_20 : decode cL_hangs 20 = .ok (.istore 4, 2) := by decide +kernel
theorem dL_hangs_22 : decode cL_hangs 22 = .ok (.iconst 0, 1) := by decide +kernel
theorem dL_hangs_23 : decode cL_hangs 23 = .ok (.istore 5, 2) := by decide +kernel
theorem dL_hangs_25 : decode cL_hangs 25 = .ok (.iload_n 1, 1) := by decide +kernel
theorem dL_hangs_26 : decode cL_hangs 26 = .ok (.ifCond .lt 73, 3) := by decide +kernel
theorem dL_hangs_29 : decode cL_hangs 29 = .ok (.iload_n 1, 1) := by decide +kernel
theorem dL_hangs_30 : decode cL_hangs 30 = .ok (.sipush 200, 3) := by decide +kernel
theorem dL_hangs_33 : decode cL_hangs 33 = .ok (.if_icmp .gt 66, 3) := by decide +kernel
theorem dL_hangs_36 : decode cL_hangs 36 = .ok (.iload_n 2, 1) := by decide +kernel
theorem dL_hangs_37 : decode cL_hangs 37 = .ok (.ifCond .lt 62, 3) := by decide +kernel
theorem dL_hangs_40 : decode cL_hangs 40 = .ok (.iload_n 2, 1) := by decide +kernel
theorem dL_hangs_41 : decode cL_hangs 41 = .ok (.bipush 60, 2) := by decide +kernel
theorem dL_hangs_43 : decode cL_hangs 43 = .ok (.if_icmp .gt 56, 3) := by decide +kernel
theorem dL_hangs_46 : decode cL_hangs 46 = .ok (.iload_n 3, 1) := by decide +kernel
theorem dL_hangs_47 : decode cL_hangs 47 = .ok (.ifCond .lt 52, 3) := by decide +kernel
theorem dL_hangs_50 : decode cL_hangs 50 = .ok (.iload_n 3, 1) := by decide +kernel
theorem dL_hangs_51 : decode cL_hangs 51 = .ok (.bipush 60, 2) := by decide +kernel
theorem dL_hangs_53 : decode cL_hangs 53 = .ok (.if_icmp .gt 46, 3) := by decide +kernel
theorem dL_hangs_56 : decode cL_hangs 56 = .ok (.aload_n 0, 1) := by decide +kernel
theorem dL_hangs_57 : decode cL_hangs 57 = .ok (.bipush 6, 2) := by decide +kernel
theorem dL_hangs_59 : decode cL_hangs 59 = .ok (.invokestatic 106, 3) := by decide +kernel
theorem dL_hangs_62 : decode cL_hangs 62 = .ok (.ifCond .lt 37, 3) := by decide +kernel
theorem dL_hangs_65 : decode cL_hangs 65 = .ok (.aload_n 0, 1) := by decide +kernel
theorem dL_hangs_66 : decode cL_hangs 66 = .ok (.bipush 6, 2) := by decide +kernel
theorem dL_hangs_68 : decode cL_hangs 68 = .ok (.invokestatic 106, 3) := by decide +kernel
theorem dL_hangs_71 : decode cL_hangs 71 = .ok (.bipush 12, 2) := by decide +kernel
theorem dL_hangs_73 : decode cL_hangs 73 = .ok (.if_icmp .gt 26, 3) := by decide +kernel
theorem dL_hangs_76 : decode cL_hangs 76 = .ok (.aload_n 0, 1) := by decide +kernel
theorem dL_hangs_77 : decode cL_hangs 77 = .ok (.iload_n 1, 1) := by decide +kernel
theorem dL_hangs_78 : decode cL_hangs 78 = .ok (.invokestatic 108, 3) := by decide +kernel
theorem dL_hangs_81 : decode cL_hangs 81 = .ok (.iconst (-1), 1) := by decide +kernel
theorem dL_hangs_82 : decode cL_hangs 82 = .ok (.if_icmp .ne 17, 3) := by decide +kernel
theorem dL_hangs_85 : decode cL_hangs 85 = .ok (.aload_n 0, 1) := by decide +kernel
theorem dL_hangs_86 : decode cL_hangs 86 = .ok (.iload_n 2, 1) := by decide +kernel
theorem dL_hangs_87 : decode cL_hangs 87 = .ok (.iconst 0, 1) := by decide +kernel
theorem dL_hangs_88 : decode cL_hangs 88 = .ok (.invokestatic 110, 3) := by decide +kernel
theorem dL_hangs_91 : decode cL_hangs 91 = .ok (.iconst (-1), 1) := by decide +kernel
theorem dL_hangs_92 : decode cL_hangs 92 = .ok (.if_icmp .ne 7, 3) := by decide +kernel
theorem dL_hangs_95 : decode cL_hangs 95 = .ok (.iconst 1, 1) := by decide +kernel
theorem dL_hangs_96 : decode cL_hangs 96 = .ok (.goto 4, 3) := by decide +kernel
theorem dL_hangs_99 : decode cL_hangs 99 = .ok (.iconst 0, 1) := by decide +kernel
theorem dL_hangs_100 : decode cL_hangs 100 = .ok (.istore 6, 2) := by decide +kernel
theorem dL_hangs_102 : decode cL_hangs 102 = .ok (.iconst 0, 1) := by decide +kernel
theorem dL_hangs_103 : decode cL_hangs 103 = .ok (.istore 7, 2) := by decide +kernel
theorem dL_hangs_105 : decode cL_hangs 105 = .ok (.iload 7, 2) := by decide +kernel
theorem dL_hangs_107 : decode cL_hangs 107 = .ok (.iload_n 1, 1) := by decide +kernel
theorem dL_hangs_108 : decode cL_hangs 108 = .ok (.if_icmp .ge 56, 3) := by decide +kernel
theorem dL_hangs_111 : decode cL_hangs 111 = .ok (.iload 6, 2) := by decide +kernel
theorem dL_hangs_113 : decode cL_hangs 113 = .ok (.ifCond .eq 51, 3) := by decide +kernel
theorem dL_hangs_116 : decode cL_hangs 116 = .ok (.aload_n 0, 1) := by decide +kernel
theorem dL_hangs_117 : decode cL_hangs 117 = .ok (.iload 7, 2) := by decide +kernel
theorem dL_hangs_119 : decode cL_hangs 119 = .ok (.invokestatic 108, 3) := by decide +kernel
theorem dL_hangs_122 : decode cL_hangs 122 = .ok (.istore 8, 2) := by decide +kernel
theorem dL_hangs_124 : decode cL_hangs 124 = .ok (.iload 5, 2) := by decide +kernel
theorem dL_hangs_126 : decode cL_hangs 126 = .ok (.iload 8, 2) := by decide +kernel
theorem dL_hangs_128 : decode cL_hangs 128 = .ok (.bipush 97, 2) := by decide +kernel
theorem dL_hangs_130 : decode cL_hangs 130 = .ok (.if_icmp .lt 10, 3) := by decide +kernel
theorem dL_hangs_133 : decode cL_hangs 133 = .ok (.iload 8, 2) := by decide +kernel
theorem dL_hangs_135 : decode cL_hangs 135 = .ok (.bipush 122, 2) := by decide +kernel
theorem dL_hangs_137 : decode cL_hangs 137 = .ok (.if_icmp .le 10, 3) := by decide +kernel
theorem dL_hangs_140 : decode cL_hangs 140 = .ok (.iload 8, 2) := by decide +kernel
theorem dL_hangs_142 : decode cL_hangs 142 = .ok (.bipush 95, 2) := by decide +kernel
theorem dL_hangs_144 : decode cL_hangs 144 = .ok (.if_icmp .ne 7, 3) := by decide +kernel
theorem dL_hangs_147 : decode cL_hangs 147 = .ok (.iconst 1, 1) := by decide +kernel
theorem dL_hangs_148 : decode cL_hangs 148 = .ok (.goto 4, 3) := by decide +kernel
theorem dL_hangs_151 : decode cL_hangs 151 = .ok (.iconst 0, 1) := by decide +kernel
theorem dL_hangs_152 : decode cL_hangs 152 = .ok (.iadd, 1) := by decide +kernel
theorem dL_hangs_153 : decode cL_hangs 153 = .ok (.istore 5, 2) := by decide +kernel
theorem dL_hangs_155 : decode cL_hangs 155 = .ok (.iinc 4 1, 3) := by decide +kernel
theorem dL_hangs_158 : decode cL_hangs 158 = .ok (.iinc 7 1, 3) := by decide +kernel
theorem dL_hangs_161 : decode cL_hangs 161 = .ok (.goto (-56), 3) := by decide +kernel
theorem dL_hangs_164 : decode cL_hangs 164 = .ok (.iload 6, 2) := by decide +kernel
theorem dL_hangs_166 : decode cL_hangs 166 = .ok (.ifCond .eq 38, 3) := by decide +kernel
theorem dL_hangs_169 : decode cL_hangs 169 = .ok (.iload 5, 2) := by decide +kernel
theorem dL_hangs_171 : decode cL_hangs 171 = .ok (.aload_n 0, 1) := by decide +kernel
theorem dL_hangs_172 : decode cL_hangs 172 = .ok (.iconst 1, 1) := by decide +kernel
theorem dL_hangs_173 : decode cL_hangs 173 = .ok (.invokestatic 106, 3) := by decide +kernel
theorem dL_hangs_176 : decode cL_hangs 176 = .ok (.iadd, 1) := by decide +kernel
theorem dL_hangs_177 : decode cL_hangs 177 = .ok (.aload_n 0, 1) := by decide +kernel
theorem dL_hangs_178 : decode cL_hangs 178 = .ok (.iconst 2, 1) := by decide +kernel
theorem dL_hangs_179 : decode cL_hangs 179 = .ok (.invokestatic 106, 3) := by decide +kernel
theorem dL_hangs_182 : decode cL_hangs 182 = .ok (.iadd, 1) := by decide +kernel
theorem dL_hangs_183 : decode cL_hangs 183 = .ok (.aload_n 0, 1) := by decide +kernel
theorem dL_hangs_184 : decode cL_hangs 184 = .ok (.iconst 3, 1) := by decide +kernel
theorem dL_hangs_185 : decode cL_hangs 185 = .ok (.invokestatic 106, 3) := by decide +kernel
theorem dL_hangs_188 : decode cL_hangs 188 = .ok (.iadd, 1) := by decide +kernel
theorem dL_hangs_189 : decode cL_hangs 189 = .ok (.aload_n 0, 1) := by decide +kernel
theorem dL_hangs_190 : decode cL_hangs 190 = .ok (.iconst 4, 1) := by decide +kernel
theorem dL_hangs_191 : decode cL_hangs 191 = .ok (.invokestatic 106, 3) := by decide +kernel
theorem dL_hangs_194 : decode cL_hangs 194 = .ok (.iadd, 1) := by decide +kernel
theorem dL_hangs_195 : decode cL_hangs 195 = .ok (.iload 4, 2) := by decide +kernel
theorem dL_hangs_197 : decode cL_hangs 197 = .ok (.if_icmp .ne 7, 3) := by decide +kernel
theorem dL_hangs_200 : decode cL_hangs 200 = .ok (.iconst 1, 1) := by decide +kernel
theorem dL_hangs_201 : decode cL_hangs 201 = .ok (.goto 4, 3) := by decide +kernel
theorem dL_hangs_204 : decode cL_hangs 204 = .ok (.iconst 0, 1) := by decide +kernel
theorem dL_hangs_205 : decode cL_hangs 205 = .ok (.istore 6, 2) := by decide +kernel
theorem dL_hangs_207 : decode cL_hangs 207 = .ok (.iconst 0, 1) := by decide +kernel
theorem dL_hangs_208 : decode cL_hangs 208 = .ok (.istore 7, 2) := by decide +kernel
theorem dL_hangs_210 : decode cL_hangs 210 = .ok (.iconst 0, 1) := by decide +kernel
theorem dL_hangs_211 : decode cL_hangs 211 = .ok (.istore 8, 2) := by decide +kernel
theorem dL_hangs_213 : decode cL_hangs 213 = .ok (.iconst 0, 1) := by decide +kernel
theorem dL_hangs_214 : decode cL_hangs 214 = .ok (.istore 9, 2) := by decide +kernel
theorem dL_hangs_216 : decode cL_hangs 216 = .ok (.iload 9, 2) := by decide +kernel
theorem dL_hangs_218 : decode cL_hangs 218 = .ok (.iload_n 2, 1) := by decide +kernel
theorem dL_hangs_219 : decode cL_hangs 219 = .ok (.if_icmp .ge 219, 3) := by decide +kernel
theorem dL_hangs_222 : decode cL_hangs 222 = .ok (.iload 6, 2) := by decide +kernel
theorem dL_hangs_224 : decode cL_hangs 224 = .ok (.ifCond .eq 214, 3) := by decide +kernel
theorem dL_hangs_227 : decode cL_hangs 227 = .ok (.aload_n 0, 1) := by decide +kernel
theorem dL_hangs_228 : decode cL_hangs 228 = .ok (.iload 9, 2) := by decide +kernel
theorem dL_hangs_230 : decode cL_hangs 230 = .ok (.iconst 1, 1) := by decide +kernel
theorem dL_hangs_231 : decode cL_hangs 231 = .ok (.invokestatic 110, 3) := by decide +kernel
theorem dL_hangs_234 : decode cL_hangs 234 = .ok (.istore 10, 2) := by decide +kernel
theorem dL_hangs_236 : decode cL_hangs 236 = .ok (.aload_n 0, 1) := by decide +kernel
theorem dL_hangs_237 : decode cL_hangs 237 = .ok (.iload 9, 2) := by decide +kernel
theorem dL_hangs_239 : decode cL_hangs 239 = .ok (.iconst 2, 1) := by decide +kernel
theorem dL_hangs_240 : decode cL_hangs 240 = .ok (.invokestatic 110, 3) := by decide +kernel
theorem dL_hangs_243 : decode cL_hangs 243 = .ok (.istore 11, 2) := by decide +kernel
theorem dL_hangs_245 : decode cL_hangs 245 = .ok (.iload 10, 2) := by decide +kernel
theorem dL_hangs_247 : decode cL_hangs 247 = .ok (.ifCond .lt 142, 3) := by decide +kernel
theorem dL_hangs_250 : decode cL_hangs 250 = .ok (.iload 10, 2) := by decide +kernel
theorem dL_hangs_252 : decode cL_hangs 252 = .ok (.iconst 4, 1) := by decide +kernel
theorem dL_hangs_253 : decode cL_hangs 253 = .ok (.if_icmp .ge 136, 3) := by decide +kernel
theorem dL_hangs_256 : decode cL_hangs 256 = .ok (.aload_n 0, 1) := by decide +kernel
theorem dL_hangs_257 : decode cL_hangs 257 = .ok (.iload 9, 2) := by decide +kernel
theorem dL_hangs_259 : decode cL_hangs 259 = .ok (.iconst 0, 1) := by decide +kernel
theorem dL_hangs_260 : decode cL_hangs 260 = .ok (.invokestatic 110, 3) := by decide +kernel
theorem dL_hangs_263 : decode cL_hangs 263 = .ok (.ifCond .lt 126, 3) := by decide +kernel
theorem dL_hangs_266 : decode cL_hangs 266 = .ok (.aload_n 0, 1) := by decide +kernel
theorem dL_hangs_267 : decode cL_hangs 267 = .ok (.iload 9, 2) := by decide +kernel
theorem dL_hangs_269 : decode cL_hangs 269 = .ok (.iconst 0, 1) := by decide +kernel
theorem dL_hangs_270 : decode cL_hangs 270 = .ok (.invokestatic 110, 3) := by decide +kernel
theorem dL_hangs_273 : decode cL_hangs 273 = .ok (.bipush 26, 2) := by decide +kernel
theorem dL_hangs_275 : decode cL_hangs 275 = .ok (.if_icmp .ge 114, 3) := by decide +kernel
theorem dL_hangs_278 : decode cL_hangs 278 = .ok (.iload 11, 2) := by decide +kernel
theorem dL_hangs_280 : decode cL_hangs 280 = .ok (.ifCond .lt 109, 3) := by decide +kernel
theorem dL_hangs_283 : decode cL_hangs 283 = .ok (.iload 11, 2) := by decide +kernel
theorem dL_hangs_285 : decode cL_hangs 285 = .ok (.bipush 12, 2) := by decide +kernel
theorem dL_hangs_287 : decode cL_hangs 287 = .ok (.if_icmp .gt 102, 3) := by decide +kernel
theorem dL_hangs_290 : decode cL_hangs 290 = .ok (.aload_n 0, 1) := by decide +kernel
theorem dL_hangs_291 : decode cL_hangs 291 = .ok (.iload 9, 2) := by decide +kernel
theorem dL_hangs_293 : decode cL_hangs 293 = .ok (.iconst 3, 1) := by decide +kernel
theorem dL_hangs_294 : decode cL_hangs 294 = .ok (.invokestatic 110, 3) := by decide +kernel
theorem dL_hangs_297 : decode cL_hangs 297 = .ok (.ifCond .lt 92, 3) := by decide +kernel
theorem dL_hangs_300 : decode cL_hangs 300 = .ok (.aload_n 0, 1) := by decide +kernel
theorem dL_hangs_301 : decode cL_hangs 301 = .ok (.iload 9, 2) := by decide +kernel
theorem dL_hangs_303 : decode cL_hangs 303 = .ok (.iconst 3, 1) := by decide +kernel
theorem dL_hangs_304 : decode cL_hangs 304 = .ok (.invokestatic 110, 3) := by decide +kernel
theorem dL_hangs_307 : decode cL_hangs 307 = .ok (.bipush 6, 2) := by decide +kernel
theorem dL_hangs_309 : decode cL_hangs 309 = .ok (.if_icmp .gt 80, 3) := by decide +kernel
theorem dL_hangs_312 : decode cL_hangs 312 = .ok (.iload 10, 2) := by decide +kernel
theorem dL_hangs_314 : decode cL_hangs 314 = .ok (.ifCond .ne 16, 3) := by decide +kernel
theorem dL_hangs_317 : decode cL_hangs 317 = .ok (.aload_n 0, 1) := by decide +kernel
theorem dL_hangs_318 : decode cL_hangs 318 = .ok (.iload 9, 2) := by decide +kernel
theorem dL_hangs_320 : decode cL_hangs 320 = .ok (.iconst 4, 1) := by decide +kernel
theorem dL_hangs_321 : decode cL_hangs 321 = .ok (.invokestatic 110, 3) := by decide +kernel
theorem dL_hangs_324 : decode cL_hangs 324 = .ok (.ifCond .lt 65, 3) := by decide +kernel
theorem dL_hangs_327 : decode cL_hangs 327 = .ok (.goto 14, 3) := by decide +kernel
theorem dL_hangs_330 : decode cL_hangs 330 = .ok (.aload_n 0, 1) := by decide +kernel
theorem dL_hangs_331 : decode cL_hangs 331 = .ok (.iload 9, 2) := by decide +kernel
theorem dL_hangs_333 : decode cL_hangs 333 = .ok (.iconst 4, 1) := by decide +kernel
theorem dL_hangs_334 : decode cL_hangs 334 = .ok (.invokestatic 110, 3) := by decide +kernel
theorem dL_hangs_337 : decode cL_hangs 337 = .ok (.iconst 1, 1) := by decide +kernel
theorem dL_hangs_338 : decode cL_hangs 338 = .ok (.if_icmp .ne 51, 3) := by decide +kernel
theorem dL_hangs_341 : decode cL_hangs 341 = .ok (.aload_n 0, 1) := by decide +kernel
theorem dL_hangs_342 : decode cL_hangs 342 = .ok (.iload 9, 2) := by decide +kernel
theorem dL_hangs_344 : decode cL_hangs 344 = .ok (.iconst 4, 1) := by decide +kernel
theorem dL_hangs_345 : decode cL_hangs 345 = .ok (.invokestatic 110, 3) := by decide +kernel
theorem dL_hangs_348 : decode cL_hangs 348 = .ok (.sipush 200, 3) := by decide +kernel
theorem dL_hangs_351 : decode cL_hangs 351 = .ok (.if_icmp .gt 38, 3) := by decide +kernel
theorem dL_hangs_354 : decode cL_hangs 354 = .ok (.aload_n 0, 1) := by decide +kernel
theorem dL_hangs_355 : decode cL_hangs 355 = .ok (.iload 9, 2) := by decide +kernel
theorem dL_hangs_357 : decode cL_hangs 357 = .ok (.iconst 5, 1) := by decide +kernel
theorem dL_hangs_358 : decode cL_hangs 358 = .ok (.invokestatic 110, 3) := by decide +kernel
theorem dL_hangs_361 : decode cL_hangs 361 = .ok (.ifCond .lt 28, 3) := by decide +kernel
theorem dL_hangs_364 : decode cL_hangs 364 = .ok (.aload_n 0, 1) := by decide +kernel
theorem dL_hangs_365 : decode cL_hangs 365 = .ok (.iload 9, 2) := by decide +kernel
theorem dL_hangs_367 : decode cL_hangs 367 = .ok (.iconst 5, 1) := by decide +kernel
theorem dL_hangs_368 : decode cL_hangs 368 = .ok (.invokestatic 110, 3) := by decide +kernel
theorem dL_hangs_371 : decode cL_hangs 371 = .ok (.sipush 200, 3) := by decide +kernel
theorem dL_hangs_374 : decode cL_hangs 374 = .ok (.aload_n 0, 1) := by decide +kernel
theorem dL_hangs_375 : decode cL_hangs 375 = .ok (.iload 9, 2) := by decide +kernel
theorem dL_hangs_377 : decode cL_hangs 377 = .ok (.iconst 3, 1) := by decide +kernel
theorem dL_hangs_378 : decode cL_hangs 378 = .ok (.invokestatic 110, 3) := by decide +kernel
theorem dL_hangs_381 : decode cL_hangs 381 = .ok (.imul, 1) := by decide +kernel
theorem dL_hangs_382 : decode cL_hangs 382 = .ok (.if_icmp .gt 7, 3) := by decide +kernel
theorem dL_hangs_385 : decode cL_hangs 385 = .ok (.iconst 1, 1) := by decide +kernel
theorem dL_hangs_386 : decode cL_hangs 386 = .ok (.goto 4, 3) := by decide +kernel
theorem dL_hangs_389 : decode cL_hangs 389 = .ok (.iconst 0, 1) := by decide +kernel
theorem dL_hangs_390 : decode cL_hangs 390 = .ok (.istore 6, 2) := by decide +kernel
theorem dL_hangs_392 : decode cL_hangs 392 = .ok (.iload 7, 2) := by decide +kernel
theorem dL_hangs_394 : decode cL_hangs 394 = .ok (.iload 10, 2) := by decide +kernel
theorem dL_hangs_396 : decode cL_hangs 396 = .ok (.ifCond .ne 7, 3) := by decide +kernel
theorem dL_hangs_399 : decode cL_hangs 399 = .ok (.iconst 1, 1) := by decide +kernel
theorem dL_hangs_400 : decode cL_hangs 400 = .ok (.goto 4, 3) := by decide +kernel
theorem dL_hangs_403 : decode cL_hangs 403 = .ok (.iconst 0, 1) := by decide +kernel
theorem dL_hangs_404 : decode cL_hangs 404 = .ok (.iadd, 1) := by decide +kernel
theorem dL_hangs_405 : decode cL_hangs 405 = .ok (.istore 7, 2) := by decide +kernel
theorem dL_hangs_407 : decode cL_hangs 407 = .ok (.iload 10, 2) := by decide +kernel
theorem dL_hangs_409 : decode cL_hangs 409 = .ok (.ifCond .ne 19, 3) := by decide +kernel
theorem dL_hangs_412 : decode cL_hangs 412 = .ok (.iload 11, 2) := by decide +kernel
theorem dL_hangs_414 : decode cL_hangs 414 = .ok (.iconst 1, 1) := by decide +kernel
theorem dL_hangs_415 : decode cL_hangs 415 = .ok (.iadd, 1) := by decide +kernel
theorem dL_hangs_416 : decode cL_hangs 416 = .ok (.iload 8, 2) := by decide +kernel
theorem dL_hangs_418 : decode cL_hangs 418 = .ok (.if_icmp .le 10, 3) := by decide +kernel
theorem dL_hangs_421 : decode cL_hangs 421 = .ok (.iload 11, 2) := by decide +kernel
theorem dL_hangs_423 : decode cL_hangs 423 = .ok (.iconst 1, 1) := by decide +kernel
theorem dL_hangs_424 : decode cL_hangs 424 = .ok (.iadd, 1) := by decide +kernel
theorem dL_hangs_425 : decode cL_hangs 425 = .ok (.goto 5, 3) := by decide +kernel
theorem dL_hangs_428 : decode cL_hangs 428 = .ok (.iload 8, 2) := by decide +kernel
theorem dL_hangs_430 : decode cL_hangs 430 = .ok (.istore 8, 2) := by decide +kernel
theorem dL_hangs_432 : decode cL_hangs 432 = .ok (.iinc 9 1, 3) := by decide +kernel
theorem dL_hangs_435 : decode cL_hangs 435 = .ok (.goto (-219), 3) := by decide +kernel
theorem dL_hangs_438 : decode cL_hangs 438 = .ok (.iload 6, 2) := by decide +kernel
theorem dL_hangs_440 : decode cL_hangs 440 = .ok (.ifCond .eq 50, 3) := by decide +kernel
theorem dL_hangs_443 : decode cL_hangs 443 = .ok (.iload_n 2, 1) := by decide +kernel
theorem dL_hangs_444 : decode cL_hangs 444 = .ok (.bipush 60, 2) := by decide +kernel
theorem dL_hangs_446 : decode cL_hangs 446 = .ok (.if_icmp .ge 23, 3) := by decide +kernel
theorem dL_hangs_449 : decode cL_hangs 449 = .ok (.iload 7, 2) := by decide +kernel
theorem dL_hangs_451 : decode cL_hangs 451 = .ok (.iload_n 3, 1) := by decide +kernel
theorem dL_hangs_452 : decode cL_hangs 452 = .ok (.if_icmp .ne 38, 3) := by decide +kernel
theorem dL_hangs_455 : decode cL_hangs 455 = .ok (.iload 8, 2) := by decide +kernel
theorem dL_hangs_457 : decode cL_hangs 457 = .ok (.aload_n 0, 1) := by decide +kernel
theorem dL_hangs_458 : decode cL_hangs 458 = .ok (.bipush 6, 2) := by decide +kernel
theorem dL_hangs_460 : decode cL_hangs 460 = .ok (.invokestatic 106, 3) := by decide +kernel
theorem dL_hangs_463 : decode cL_hangs 463 = .ok (.if_icmp .ne 27, 3) := by decide +kernel
theorem dL_hangs_466 : decode cL_hangs 466 = .ok (.goto 20, 3) := by decide +kernel
theorem dL_hangs_469 : decode cL_hangs 469 = .ok (.iload 7, 2) := by decide +kernel
theorem dL_hangs_471 : decode cL_hangs 471 = .ok (.iload_n 3, 1) := by decide +kernel
theorem dL_hangs_472 : decode cL_hangs 472 = .ok (.if_icmp .gt 18, 3) := by decide +kernel
theorem dL_hangs_475 : decode cL_hangs 475 = .ok (.iload 8, 2) := by decide +kernel
theorem dL_hangs_477 : decode cL_hangs 477 = .ok (.aload_n 0, 1) := by decide +kernel
theorem dL_hangs_478 : decode cL_hangs 478 = .ok (.bipush 6, 2) := by decide +kernel
theorem dL_hangs_480 : decode cL_hangs 480 = .ok (.invokestatic 106, 3) := by decide +kernel
theorem dL_hangs_483 : decode cL_hangs 483 = .ok (.if_icmp .gt 7, 3) := by decide +kernel
theorem dL_hangs_486 : decode cL_hangs 486 = .ok (.iconst 1, 1) := by decide +kernel
theorem dL_hangs_487 : decode cL_hangs 487 = .ok (.goto 4, 3) := by decide +kernel
theorem dL_hangs_490 : decode cL_hangs 490 = .ok (.iconst 0, 1) := by decide +kernel
theorem dL_hangs_491 : decode cL_hangs 491 = .ok (.istore 6, 2) := by decide +kernel
theorem dL_hangs_493 : decode cL_hangs 493 = .ok (.iconst 0, 1) := by decide +kernel
theorem dL_hangs_494 : decode cL_hangs 494 = .ok (.istore 9, 2) := by decide +kernel
theorem dL_hangs_496 : decode cL_hangs 496 = .ok (.iconst 0, 1) := by decide +kernel
theorem dL_hangs_497 : decode cL_hangs 497 = .ok (.istore 10, 2) := by decide +kernel
theorem dL_hangs_499 : decode cL_hangs 499 = .ok (.iconst 0, 1) := by decide +kernel
theorem dL_hangs_500 : decode cL_hangs 500 = .ok (.istore 11, 2) := by decide +kernel
theorem dL_hangs_502 : decode cL_hangs 502 = .ok (.iconst 0, 1) := by decide +kernel
theorem dL_hangs_503 : decode cL_hangs 503 = .ok (.istore 12, 2) := by decide +kernel
theorem dL_hangs_505 : decode cL_hangs 505 = .ok (.iload 12, 2) := by decide +kernel
theorem dL_hangs_507 : decode cL_hangs 507 = .ok (.bipush 26, 2) := by decide +kernel
theorem dL_hangs_509 : decode cL_hangs 509 = .ok (.if_icmp .ge 367, 3) := by decide +kernel
theorem dL_hangs_512 : decode cL_hangs 512 = .ok (.iload 6, 2) := by decide +kernel
theorem dL_hangs_514 : decode cL_hangs 514 = .ok (.ifCond .eq 362, 3) := by decide +kernel
theorem dL_hangs_517 : decode cL_hangs 517 = .ok (.aload_n 0, 1) := by decide +kernel
theorem dL_hangs_518 : decode cL_hangs 518 = .ok (.iconst 1, 1) := by decide +kernel
theorem dL_hangs_519 : decode cL_hangs 519 = .ok (.invokestatic 112, 3) := by decide +kernel
theorem dL_hangs_522 : decode cL_hangs 522 = .ok (.iload 12, 2) := by decide +kernel
theorem dL_hangs_524 : decode cL_hangs 524 = .ok (.ishr, 1) := by decide +kernel
theorem dL_hangs_525 : decode cL_hangs 525 = .ok (.iconst 1, 1) := by decide +kernel
theorem dL_hangs_526 : decode cL_hangs 526 = .ok (.iand, 1) := by decide +kernel
theorem dL_hangs_527 : decode cL_hangs 527 = .ok (.iconst 1, 1) := by decide +kernel
theorem dL_hangs_528 : decode cL_hangs 528 = .ok (.if_icmp .ne 7, 3) := by decide +kernel
theorem dL_hangs_531 : decode cL_hangs 531 = .ok (.iconst 1, 1) := by decide +kernel
theorem dL_hangs_532 : decode cL_hangs 532 = .ok (.goto 4, 3) := by decide +kernel
theorem dL_hangs_535 : decode cL_hangs 535 = .ok (.iconst 0, 1) := by decide +kernel
theorem dL_hangs_536 : decode cL_hangs 536 = .ok (.istore 13, 2) := by decide +kernel
theorem dL_hangs_538 : decode cL_hangs 538 = .ok (.iload 9, 2) := by decide +kernel
theorem dL_hangs_540 : decode cL_hangs 540 = .ok (.iload 13, 2) := by decide +kernel
theorem dL_hangs_542 : decode cL_hangs 542 = .ok (.ifCond .eq 7, 3) := by decide +kernel
theorem dL_hangs_545 : decode cL_hangs 545 = .ok (.iconst 1, 1) := by decide +kernel
theorem dL_hangs_546 : decode cL_hangs 546 = .ok (.goto 4, 3) := by decide +kernel
theorem dL_hangs_549 : decode cL_hangs 549 = .ok (.iconst 0, 1) := by decide +kernel
theorem dL_hangs_550 : decode cL_hangs 550 = .ok (.iadd, 1) := by decide +kernel
theorem dL_hangs_551 : decode cL_hangs 551 = .ok (.istore 9, 2) := by decide +kernel
theorem dL_hangs_553 : decode cL_hangs 553 = .ok (.iload 10, 2) := by decide +kernel
theorem dL_hangs_555 : decode cL_hangs 555 = .ok (.iload 13, 2) := by decide +kernel
theorem dL_hangs_557 : decode cL_hangs 557 = .ok (.ifCond .eq 13, 3) := by decide +kernel
theorem dL_hangs_560 : decode cL_hangs 560 = .ok (.aload_n 0, 1) := by decide +kernel
theorem dL_hangs_561 : decode cL_hangs 561 = .ok (.iload 12, 2) := by decide +kernel
theorem dL_hangs_563 : decode cL_hangs 563 = .ok (.iconst 2, 1) := by decide +kernel
theorem dL_hangs_564 : decode cL_hangs 564 = .ok (.invokestatic 114, 3) := by decide +kernel
theorem dL_hangs_567 : decode cL_hangs 567 = .ok (.goto 4, 3) := by decide +kernel
theorem dL_hangs_570 : decode cL_hangs 570 = .ok (.iconst 0, 1) := by decide +kernel
theorem dL_hangs_571 : decode cL_hangs 571 = .ok (.iadd, 1) := by decide +kernel
theorem dL_hangs_572 : decode cL_hangs 572 = .ok (.istore 10, 2) := by decide +kernel
theorem dL_hangs_574 : decode cL_hangs 574 = .ok (.iload 11, 2) := by decide +kernel
theorem dL_hangs_576 : decode cL_hangs 576 = .ok (.iload 13, 2) := by decide +kernel
theorem dL_hangs_578 : decode cL_hangs 578 = .ok (.ifCond .eq 13, 3) := by decide +kernel
theorem dL_hangs_581 : decode cL_hangs 581 = .ok (.aload_n 0, 1) := by decide +kernel
theorem dL_hangs_582 : decode cL_hangs 582 = .ok (.iload 12, 2) := by decide +kernel
theorem dL_hangs_584 : decode cL_hangs 584 = .ok (.iconst 1, 1) := by decide +kernel
theorem dL_hangs_585 : decode cL_hangs 585 = .ok (.invokestatic 114, 3) := by decide +kernel
theorem dL_hangs_588 : decode cL_hangs 588 = .ok (.goto 4, 3) := by decide +kernel
theorem dL_hangs_591 : decode cL_hangs 591 = .ok (.iconst 0, 1) := by decide +kernel
theorem dL_hangs_592 : decode cL_hangs 592 = .ok (.iadd, 1) := by decide +kernel
theorem dL_hangs_593 : decode cL_hangs 593 = .ok (.istore 11, 2) := by decide +kernel
theorem dL_hangs_595 : decode cL_hangs 595 = .ok (.aload_n 0, 1) := by decide +kernel
theorem dL_hangs_596 : decode cL_hangs 596 = .ok (.invokevirtual 116, 3) := by decide +kernel
theorem dL_hangs_599 : decode cL_hangs 599 = .ok (.iload 12, 2) := by decide +kernel
theorem dL_hangs_601 : decode cL_hangs 601 = .ok (.ishr, 1) := by decide +kernel
theorem dL_hangs_602 : decode cL_hangs 602 = .ok (.iconst 1, 1) := by decide +kernel
theorem dL_hangs_603 : decode cL_hangs 603 = .ok (.iand, 1) := by decide +kernel
theorem dL_hangs_604 : decode cL_hangs 604 = .ok (.istore 14, 2) := by decide +kernel
theorem dL_hangs_606 : decode cL_hangs 606 = .ok (.iload 13, 2) := by decide +kernel
theorem dL_hangs_608 : decode cL_hangs 608 = .ok (.ifCond .eq 103, 3) := by decide +kernel
theorem dL_hangs_611 : decode cL_hangs 611 = .ok (.aload_n 0, 1) := by decide +kernel
theorem dL_hangs_612 : decode cL_hangs 612 = .ok (.iload 12, 2) := by decide +kernel
theorem dL_hangs_614 : decode cL_hangs 614 = .ok (.iconst 0, 1) := by decide +kernel
theorem dL_hangs_615 : decode cL_hangs 615 = .ok (.invokestatic 114, 3) := by decide +kernel
theorem dL_hangs_618 : decode cL_hangs 618 = .ok (.aload_n 0, 1) := by decide +kernel
theorem dL_hangs_619 : decode cL_hangs 619 = .ok (.iload 12, 2) := by decide +kernel
theorem dL_hangs_621 : decode cL_hangs 621 = .ok (.iconst 1, 1) := by decide +kernel
theorem dL_hangs_622 : decode cL_hangs 622 = .ok (.invokestatic 114, 3) := by decide +kernel
theorem dL_hangs_625 : decode cL_hangs 625 = .ok (.aload_n 0, 1) := by decide +kernel
theorem dL_hangs_626 : decode cL_hangs 626 = .ok (.iload 12, 2) := by decide +kernel
theorem dL_hangs_628 : decode cL_hangs 628 = .ok (.iconst 2, 1) := by decide +kernel
theorem dL_hangs_629 : decode cL_hangs 629 = .ok (.invokestatic 114, 3) := by decide +kernel
theorem dL_hangs_632 : decode cL_hangs 632 = .ok (.iadd, 1) := by decide +kernel
theorem dL_hangs_633 : decode cL_hangs 633 = .ok (.aload_n 0, 1) := by decide +kernel
theorem dL_hangs_634 : decode cL_hangs 634 = .ok (.iload 12, 2) := by decide +kernel
theorem dL_hangs_636 : decode cL_hangs 636 = .ok (.iconst 5, 1) := by decide +kernel
theorem dL_hangs_637 : decode cL_hangs 637 = .ok (.invokestatic 114, 3) := by decide +kernel
theorem dL_hangs_640 : decode cL_hangs 640 = .ok (.iadd, 1) := by decide +kernel
theorem dL_hangs_641 : decode cL_hangs 641 = .ok (.if_icmp .lt 66, 3) := by decide +kernel
theorem dL_hangs_644 : decode cL_hangs 644 = .ok (.aload_n 0, 1) := by decide +kernel
theorem dL_hangs_645 : decode cL_hangs 645 = .ok (.iload 12, 2) := by decide +kernel
theorem dL_hangs_647 : decode cL_hangs 647 = .ok (.iconst 4, 1) := by decide +kernel
theorem dL_hangs_648 : decode cL_hangs 648 = .ok (.invokestatic 114, 3) := by decide +kernel
theorem dL_hangs_651 : decode cL_hangs 651 = .ok (.aload_n 0, 1) := by decide +kernel
theorem dL_hangs_652 : decode cL_hangs 652 = .ok (.iload 12, 2) := by decide +kernel
theorem dL_hangs_654 : decode cL_hangs 654 = .ok (.iconst 2, 1) := by decide +kernel
theorem dL_hangs_655 : decode cL_hangs 655 = .ok (.invokestatic 114, 3) := by decide +kernel
theorem dL_hangs_658 : decode cL_hangs 658 = .ok (.if_icmp .gt 49, 3) := by decide +kernel
theorem dL_hangs_661 : decode cL_hangs 661 = .ok (.aload_n 0, 1) := by decide +kernel
theorem dL_hangs_662 : decode cL_hangs 662 = .ok (.iload 12, 2) := by decide +kernel
theorem dL_hangs_664 : decode cL_hangs 664 = .ok (.iconst 2, 1) := by decide +kernel
theorem dL_hangs_665 : decode cL_hangs 665 = .ok (.invokestatic 114, 3) := by decide +kernel
theorem dL_hangs_668 : decode cL_hangs 668 = .ok (.ifCond .le 7, 3) := by decide +kernel
theorem dL_hangs_671 : decode cL_hangs 671 = .ok (.iconst 1, 1) := by decide +kernel
theorem dL_hangs_672 : decode cL_hangs 672 = .ok (.goto 4, 3) := by decide +kernel
theorem dL_hangs_675 : decode cL_hangs 675 = .ok (.iconst 0, 1) := by decide +kernel
theorem dL_hangs_676 : decode cL_hangs 676 = .ok (.aload_n 0, 1) := by decide +kernel
theorem dL_hangs_677 : decode cL_hangs 677 = .ok (.iload 12, 2) := by decide +kernel
theorem dL_hangs_679 : decode cL_hangs 679 = .ok (.iconst 0, 1) := by decide +kernel
theorem dL_hangs_680 : decode cL_hangs 680 = .ok (.invokestatic 119, 3) := by decide +kernel
theorem dL_hangs_683 : decode cL_hangs 683 = .ok (.ifCond .eq 7, 3) := by decide +kernel
theorem dL_hangs_686 : decode cL_hangs 686 = .ok (.iconst 1, 1) := by decide +kernel
theorem dL_hangs_687 : decode cL_hangs 687 = .ok (.goto 4, 3) := by decide +kernel
theorem dL_hangs_690 : decode cL_hangs 690 = .ok (.iconst 0, 1) := by decide +kernel
theorem dL_hangs_691 : decode cL_hangs 691 = .ok (.if_icmp .ne 16, 3) := by decide +kernel
theorem dL_hangs_694 : decode cL_hangs 694 = .ok (.aload_n 0, 1) := by decide +kernel
theorem dL_hangs_695 : decode cL_hangs 695 = .ok (.iload 12, 2) := by decide +kernel
theorem dL_hangs_697 : decode cL_hangs 697 = .ok (.invokestatic 121, 3) := by decide +kernel
theorem dL_hangs_700 : decode cL_hangs 700 = .ok (.ifCond .eq 7, 3) := by decide +kernel
theorem dL_hangs_703 : decode cL_hangs 703 = .ok (.iconst 1, 1) := by decide +kernel
theorem dL_hangs_704 : decode cL_hangs 704 = .ok (.goto 63, 3) := by decide +kernel
theorem dL_hangs_707 : decode cL_hangs 707 = .ok (.iconst 0, 1) := by decide +kernel
theorem dL_hangs_708 : decode cL_hangs 708 = .ok (.goto 59, 3) := by decide +kernel
theorem dL_hangs_711 : decode cL_hangs 711 = .ok (.aload_n 0, 1) := by decide +kernel
theorem dL_hangs_712 : decode cL_hangs 712 = .ok (.iload 12, 2) := by decide +kernel
theorem dL_hangs_714 : decode cL_hangs 714 = .ok (.iconst 0, 1) := by decide +kernel
theorem dL_hangs_715 : decode cL_hangs 715 = .ok (.invokestatic 114, 3) := by decide +kernel
theorem dL_hangs_718 : decode cL_hangs 718 = .ok (.iconst (-1), 1) := by decide +kernel
theorem dL_hangs_719 : decode cL_hangs 719 = .ok (.if_icmp .ne 47, 3) := by decide +kernel
theorem dL_hangs_722 : decode cL_hangs 722 = .ok (.aload_n 0, 1) := by decide +kernel
theorem dL_hangs_723 : decode cL_hangs 723 = .ok (.iload 12, 2) := by decide +kernel
theorem dL_hangs_725 : decode cL_hangs 725 = .ok (.iconst 0, 1) := by decide +kernel
theorem dL_hangs_726 : decode cL_hangs 726 = .ok (.invokestatic 119, 3) := by decide +kernel
theorem dL_hangs_729 : decode cL_hangs 729 = .ok (.ifCond .ne 37, 3) := by decide +kernel
theorem dL_hangs_732 : decode cL_hangs 732 = .ok (.aload_n 0, 1) := by decide +kernel
theorem dL_hangs_733 : decode cL_hangs 733 = .ok (.iload 12, 2) := by decide +kernel
theorem dL_hangs_735 : decode cL_hangs 735 = .ok (.iconst 1, 1) := by decide +kernel
theorem dL_hangs_736 : decode cL_hangs 736 = .ok (.invokestatic 119, 3) := by decide +kernel
theorem dL_hangs_739 : decode cL_hangs 739 = .ok (.ifCond .ne 27, 3) := by decide +kernel
theorem dL_hangs_742 : decode cL_hangs 742 = .ok (.aload_n 0, 1) := by decide +kernel
theorem dL_hangs_743 : decode cL_hangs 743 = .ok (.iload 12, 2) := by decide +kernel
theorem dL_hangs_745 : decode cL_hangs 745 = .ok (.invokestatic 121, 3) := by decide +kernel
theorem dL_hangs_748 : decode cL_hangs 748 = .ok (.ifCond .ne 18, 3) := by decide +kernel
theorem dL_hangs_751 : decode cL_hangs 751 = .ok (.aload_n 0, 1) := by decide +kernel
theorem dL_hangs_752 : decode cL_hangs 752 = .ok (.iload 12, 2) := by decide +kernel
theorem dL_hangs_754 : decode cL_hangs 754 = .ok (.iconst 3, 1) := by decide +kernel
theorem dL_hangs_755 : decode cL_hangs 755 = .ok (.invokestatic 123, 3) := by decide +kernel
theorem dL_hangs_758 : decode cL_hangs 758 = .ok (.iconst (-1), 1) := by decide +kernel
theorem dL_hangs_759 : decode cL_hangs 759 = .ok (.if_icmp .ne 7, 3) := by decide +kernel
theorem dL_hangs_762 : decode cL_hangs 762 = .ok (.iconst 1, 1) := by decide +kernel
theorem dL_hangs_763 : decode cL_hangs 763 = .ok (.goto 4, 3) := by decide +kernel
theorem dL_hangs_766 : decode cL_hangs 766 = .ok (.iconst 0, 1) := by decide +kernel
theorem dL_hangs_767 : decode cL_hangs 767 = .ok (.istore 6, 2) := by decide +kernel
theorem dL_hangs_769 : decode cL_hangs 769 = .ok (.iload 6, 2) := by decide +kernel
theorem dL_hangs_771 : decode cL_hangs 771 = .ok (.ifCond .eq 96, 3) := by decide +kernel
theorem dL_hangs_774 : decode cL_hangs 774 = .ok (.aload_n 0, 1) := by decide +kernel
theorem dL_hangs_775 : decode cL_hangs 775 = .ok (.iload 12, 2) := by decide +kernel
theorem dL_hangs_777 : decode cL_hangs 777 = .ok (.iconst 0, 1) := by decide +kernel
theorem dL_hangs_778 : decode cL_hangs 778 = .ok (.invokestatic 119, 3) := by decide +kernel
theorem dL_hangs_781 : decode cL_hangs 781 = .ok (.aload_n 0, 1) := by decide +kernel
theorem dL_hangs_782 : decode cL_hangs 782 = .ok (.iload 12, 2) := by decide +kernel
theorem dL_hangs_784 : decode cL_hangs 784 = .ok (.iconst 1, 1) := by decide +kernel
theorem dL_hangs_785 : decode cL_hangs 785 = .ok (.invokestatic 119, 3) := by decide +kernel
theorem dL_hangs_788 : decode cL_hangs 788 = .ok (.iconst (-1), 1) := by decide +kernel
theorem dL_hangs_789 : decode cL_hangs 789 = .ok (.ixor, 1) := by decide +kernel
theorem dL_hangs_790 : decode cL_hangs 790 = .ok (.iand, 1) := by decide +kernel
theorem dL_hangs_791 : decode cL_hangs 791 = .ok (.ifCond .ne 76, 3) := by decide +kernel
theorem dL_hangs_794 : decode cL_hangs 794 = .ok (.aload_n 0, 1) := by decide +kernel
theorem dL_hangs_795 : decode cL_hangs 795 = .ok (.iload 12, 2) := by decide +kernel
theorem dL_hangs_797 : decode cL_hangs 797 = .ok (.iconst 2, 1) := by decide +kernel
theorem dL_hangs_798 : decode cL_hangs 798 = .ok (.invokestatic 119, 3) := by decide +kernel
theorem dL_hangs_801 : decode cL_hangs 801 = .ok (.aload_n 0, 1) := by decide +kernel
theorem dL_hangs_802 : decode cL_hangs 802 = .ok (.iload 12, 2) := by decide +kernel
theorem dL_hangs_804 : decode cL_hangs 804 = .ok (.iconst 3, 1) := by decide +kernel
theorem dL_hangs_805 : decode cL_hangs 805 = .ok (.invokestatic 119, 3) := by decide +kernel
theorem dL_hangs_808 : decode cL_hangs 808 = .ok (.iconst (-1), 1) := by decide +kernel
theorem dL_hangs_809 : decode cL_hangs 809 = .ok (.ixor, 1) := by decide +kernel
theorem dL_hangs_810 : decode cL_hangs 810 = .ok (.iand, 1) := by decide +kernel
theorem dL_hangs_811 : decode cL_hangs 811 = .ok (.ifCond .ne 56, 3) := by decide +kernel
theorem dL_hangs_814 : decode cL_hangs 814 = .ok (.aload_n 0, 1) := by decide +kernel
theorem dL_hangs_815 : decode cL_hangs 815 = .ok (.iload 12, 2) := by decide +kernel
theorem dL_hangs_817 : decode cL_hangs 817 = .ok (.iconst 1, 1) := by decide +kernel
theorem dL_hangs_818 : decode cL_hangs 818 = .ok (.invokestatic 119, 3) := by decide +kernel
theorem dL_hangs_821 : decode cL_hangs 821 = .ok (.iload 12, 2) := by decide +kernel
theorem dL_hangs_823 : decode cL_hangs 823 = .ok (.ishr, 1) := by decide +kernel
theorem dL_hangs_824 : decode cL_hangs 824 = .ok (.iconst 1, 1) := by decide +kernel
theorem dL_hangs_825 : decode cL_hangs 825 = .ok (.iand, 1) := by decide +kernel
theorem dL_hangs_826 : decode cL_hangs 826 = .ok (.iload 14, 2) := by decide +kernel
theorem dL_hangs_828 : decode cL_hangs 828 = .ok (.if_icmp .ne 39, 3) := by decide +kernel
theorem dL_hangs_831 : decode cL_hangs 831 = .ok (.aload_n 0, 1) := by decide +kernel
theorem dL_hangs_832 : decode cL_hangs 832 = .ok (.iload 12, 2) := by decide +kernel
theorem dL_hangs_834 : decode cL_hangs 834 = .ok (.iconst 3, 1) := by decide +kernel
theorem dL_hangs_835 : decode cL_hangs 835 = .ok (.invokestatic 119, 3) := by decide +kernel
theorem dL_hangs_838 : decode cL_hangs 838 = .ok (.iload 12, 2) := by decide +kernel
theorem dL_hangs_840 : decode cL_hangs 840 = .ok (.ishr, 1) := by decide +kernel
theorem dL_hangs_841 : decode cL_hangs 841 = .ok (.iconst 1, 1) := by decide +kernel
theorem dL_hangs_842 : decode cL_hangs 842 = .ok (.iand, 1) := by decide +kernel
theorem dL_hangs_843 : decode cL_hangs 843 = .ok (.iload 14, 2) := by decide +kernel
theorem dL_hangs_845 : decode cL_hangs 845 = .ok (.if_icmp .ne 22, 3) := by decide +kernel
theorem dL_hangs_848 : decode cL_hangs 848 = .ok (.iload 14, 2) := by decide +kernel
theorem dL_hangs_850 : decode cL_hangs 850 = .ok (.ifCond .eq 13, 3) := by decide +kernel
theorem dL_hangs_853 : decode cL_hangs 853 = .ok (.aload_n 0, 1) := by decide +kernel
theorem dL_hangs_854 : decode cL_hangs 854 = .ok (.iload 12, 2) := by decide +kernel
theorem dL_hangs_856 : decode cL_hangs 856 = .ok (.invokestatic 121, 3) := by decide +kernel
theorem dL_hangs_859 : decode cL_hangs 859 = .ok (.iconst (-1), 1) := by decide +kernel
theorem dL_hangs_860 : decode cL_hangs 860 = .ok (.if_icmp .ne 7, 3) := by decide +kernel
theorem dL_hangs_863 : decode cL_hangs 863 = .ok (.iconst 1, 1) := by decide +kernel
theorem dL_hangs_864 : decode cL_hangs 864 = .ok (.goto 4, 3) := by decide +kernel
theorem dL_hangs_867 : decode cL_hangs 867 = .ok (.iconst 0, 1) := by decide +kernel
theorem dL_hangs_868 : decode cL_hangs 868 = .ok (.istore 6, 2) := by decide +kernel
theorem dL_hangs_870 : decode cL_hangs 870 = .ok (.iinc 12 1, 3) := by decide +kernel
theorem dL_hangs_873 : decode cL_hangs 873 = .ok (.goto (-368), 3) := by decide +kernel
theorem dL_hangs_876 : decode cL_hangs 876 = .ok (.iload 6, 2) := by decide +kernel
theorem dL_hangs_878 : decode cL_hangs 878 = .ok (.ifCond .eq 64, 3) := by decide +kernel
theorem dL_hangs_881 : decode cL_hangs 881 = .ok (.iload 9, 2) := by decide +kernel
theorem dL_hangs_883 : decode cL_hangs 883 = .ok (.aload_n 0, 1) := by decide +kernel
theorem dL_hangs_884 : decode cL_hangs 884 = .ok (.iconst 0, 1) := by decide +kernel
theorem dL_hangs_885 : decode cL_hangs 885 = .ok (.invokestatic 112, 3) := by decide +kernel
theorem dL_hangs_888 : decode cL_hangs 888 = .ok (.if_icmp .ne 54, 3) := by decide +kernel
theorem dL_hangs_891 : decode cL_hangs 891 = .ok (.iload 10, 2) := by decide +kernel
theorem dL_hangs_893 : decode cL_hangs 893 = .ok (.aload_n 0, 1) := by decide +kernel
theorem dL_hangs_894 : decode cL_hangs 894 = .ok (.iconst 5, 1) := by decide +kernel
theorem dL_hangs_895 : decode cL_hangs 895 = .ok (.invokestatic 112, 3) := by decide +kernel
theorem dL_hangs_898 : decode cL_hangs 898 = .ok (.if_icmp .ne 44, 3) := by decide +kernel
theorem dL_hangs_901 : decode cL_hangs 901 = .ok (.aload_n 0, 1) := by decide +kernel
theorem dL_hangs_902 : decode cL_hangs 902 = .ok (.invokevirtual 125, 3) := by decide +kernel
theorem dL_hangs_905 : decode cL_hangs 905 = .ok (.iload 9, 2) := by decide +kernel
theorem dL_hangs_907 : decode cL_hangs 907 = .ok (.ifCond .ne 7, 3) := by decide +kernel
theorem dL_hangs_910 : decode cL_hangs 910 = .ok (.dconst 0, 1) := by decide +kernel
theorem dL_hangs_911 : decode cL_hangs 911 = .ok (.goto 10, 3) := by decide +kernel
theorem dL_hangs_914 : decode cL_hangs 914 = .ok (.iload 11, 2) := by decide +kernel
theorem dL_hangs_916 : decode cL_hangs 916 = .ok (.i2d, 1) := by decide +kernel
theorem dL_hangs_917 : decode cL_hangs 917 = .ok (.iload 9, 2) := by decide +kernel
theorem dL_hangs_919 : decode cL_hangs 919 = .ok (.i2d, 1) := by decide +kernel
theorem dL_hangs_920 : decode cL_hangs 920 = .ok (.ddiv, 1) := by decide +kernel
theorem dL_hangs_921 : decode cL_hangs 921 = .ok (.dcmp .l, 1) := by decide +kernel
theorem dL_hangs_922 : decode cL_hangs 922 = .ok (.ifCond .ne 20, 3) := by decide +kernel
theorem dL_hangs_925 : decode cL_hangs 925 = .ok (.aload_n 0, 1) := by decide +kernel
theorem dL_hangs_926 : decode cL_hangs 926 = .ok (.invokevirtual 129, 3) := by decide +kernel
theorem dL_hangs_929 : decode cL_hangs 929 = .ok (.aload_n 0, 1) := by decide +kernel
theorem dL_hangs_930 : decode cL_hangs 930 = .ok (.iconst 1, 1) := by decide +kernel
theorem dL_hangs_931 : decode cL_hangs 931 = .ok (.invokestatic 112, 3) := by decide +kernel
theorem dL_hangs_934 : decode cL_hangs 934 = .ok (.iand, 1) := by decide +kernel
theorem dL_hangs_935 : decode cL_hangs 935 = .ok (.ifCond .ne 7, 3) := by decide +kernel
theorem dL_hangs_938 : decode cL_hangs 938 = .ok (.iconst 1, 1) := by decide +kernel
theorem dL_hangs_939 : decode cL_hangs 939 = .ok (.goto 4, 3) := by decide +kernel
theorem dL_hangs_942 : decode cL_hangs 942 = .ok (.iconst 0, 1) := by decide +kernel
theorem dL_hangs_943 : decode cL_hangs 943 = .ok (.ireturn, 1) := by decide +kernel
theorem dL_same_0 : decode cL_same 0 = .ok (.iconst 1, 1) := by decide +kernel
theorem dL_same_1 : decode cL_same 1 = .ok (.istore_n 2, 1) := by decide +kernel
theorem dL_same_2 : decode cL_same 2 = .ok (.iconst 0, 1) := by decide +kernel
theorem dL_same_3 : decode cL_same 3 = .ok (.istore_n 3, 1) := by decide +kernel
theorem dL_same_4 : decode cL_same 4 = .ok (.iload_n 3, 1) := by decide +kernel
theorem dL_same_5 : decode cL_same 5 = .ok (.bipush 7, 2) := by decide +kernel
theorem dL_same_7 : decode cL_same 7 = .ok (.if_icmp .ge 45, 3) := by decide +kernel
theorem dL_same_10 : decode cL_same 10 = .ok (.iload_n 2, 1) := by decide +kernel
theorem dL_same_11 : decode cL_same 11 = .ok (.ifCond .eq 41, 3) := by decide +kernel
theorem dL_same_14 : decode cL_same 14 = .ok (.aload_n 0, 1) := by decide +kernel
theorem dL_same_15 : decode cL_same 15 = .ok (.iload_n 3, 1) := by decide +kernel
theorem dL_same_16 : decode cL_same 16 = .ok (.invokestatic 112, 3) := by decide +kernel
theorem dL_same_19 : decode cL_same 19 = .ok (.aload_n 1, 1) := by decide +kernel
theorem dL_same_20 : decode cL_same 20 = .ok (.iload_n 3, 1) := by decide +kernel
theorem dL_same_21 : decode cL_same 21 = .ok (.invokestatic 112, 3) := by decide +kernel
theorem dL_same_24 : decode cL_same 24 = .ok (.if_icmp .ne 20, 3) := by decide +kernel
theorem dL_same_27 : decode cL_same 27 = .ok (.aload_n 0, 1) := by decide +kernel
theorem dL_same_28 : decode cL_same 28 = .ok (.iload_n 3, 1) := by decide +kernel
theorem dL_same_29 : decode cL_same 29 = .ok (.invokestatic 106, 3) := by decide +kernel
theorem dL_same_32 : decode cL_same 32 = .ok (.aload_n 1, 1) := by decide +kernel
theorem dL_same_33 : decode cL_same 33 = .ok (.iload_n 3, 1) := by decide +kernel
theorem dL_same_34 : decode cL_same 34 = .ok (.invokestatic 106, 3) := by decide +kernel
theorem dL_same_37 : decode cL_same 37 = .ok (.if_icmp .ne 7, 3) := by decide +kernel
theorem dL_same_40 : decode cL_same 40 = .ok (.iconst 1, 1) := by decide +kernel
theorem dL_same_41 : decode cL_same 41 = .ok (.goto 4, 3) := by decide +kernel
theorem dL_same_44 : decode cL_same 44 = .ok (.iconst 0, 1) := by decide +kernel
theorem dL_same_45 : decode cL_same 45 = .ok (.istore_n 2, 1) := by decide +kernel
theorem dL_same_46 : decode cL_same 46 = .ok (.iinc 3 1, 3) := by decide +kernel
theorem dL_same_49 : decode cL_same 49 = .ok (.goto (-45), 3) := by decide +kernel
theorem dL_same_52 : decode cL_same 52 = .ok (.iconst 0, 1) := by decide +kernel
theorem dL_same_53 : decode cL_same 53 = .ok (.istore_n 3, 1) := by decide +kernel
theorem dL_same_54 : decode cL_same 54 = .ok (.iload_n 3, 1) := by decide +kernel
theorem dL_same_55 : decode cL_same 55 = .ok (.aload_n 0, 1) := by decide +kernel
theorem dL_same_56 : decode cL_same 56 = .ok (.iconst 0, 1) := by decide +kernel
theorem dL_same_57 : decode cL_same 57 = .ok (.invokestatic 106, 3) := by decide +kernel
theorem dL_same_60 : decode cL_same 60 = .ok (.if_icmp .ge 39, 3) := by decide +kernel
theorem dL_same_63 : decode cL_same 63 = .ok (.iload_n 3, 1) := by decide +kernel
theorem dL_same_64 : decode cL_same 64 = .ok (.sipush 201, 3) := by decide +kernel
theorem dL_same_67 : decode cL_same 67 = .ok (.if_icmp .ge 32, 3) := by decide +kernel
theorem dL_same_70 : decode cL_same 70 = .ok (.iload_n 2, 1) := by decide +kernel
theorem dL_same_71 : decode cL_same 71 = .ok (.ifCond .eq 28, 3) := by decide +kernel
theorem dL_same_74 : decode cL_same 74 = .ok (.aload_n 0, 1) := by decide +kernel
theorem dL_same_75 : decode cL_same 75 = .ok (.iload_n 3, 1) := by decide +kernel
theorem dL_same_76 : decode cL_same 76 = .ok (.invokestatic 108, 3) := by decide +kernel
theorem dL_same_79 : decode cL_same 79 = .ok (.aload_n 1, 1) := by decide +kernel
theorem dL_same_80 : decode cL_same 80 = .ok (.iload_n 3, 1) := by decide +kernel
theorem dL_same_81 : decode cL_same 81 = .ok (.invokestatic 108, 3) := by decide +kernel
theorem dL_same_84 : decode cL_same 84 = .ok (.if_icmp .ne 7, 3) := by decide +kernel
theorem dL_same_87 : decode cL_same 87 = .ok (.iconst 1, 1) := by decide +kernel
theorem dL_same_88 : decode cL_same 88 = .ok (.goto 4, 3) := by decide +kernel
theorem dL_same_91 : decode cL_same 91 = .ok (.iconst 0, 1) := by decide +kernel
theorem dL_same_92 : decode cL_same 92 = .ok (.istore_n 2, 1) := by decide +kernel
theorem dL_same_93 : decode cL_same 93 = .ok (.iinc 3 1, 3) := by decide +kernel
theorem dL_same_96 : decode cL_same 96 = .ok (.goto (-42), 3) := by decide +kernel
theorem dL_same_99 : decode cL_same 99 = .ok (.iconst 0, 1) := by decide +kernel
theorem dL_same_100 : decode cL_same 100 = .ok (.istore_n 3, 1) := by decide +kernel
theorem dL_same_101 : decode cL_same 101 = .ok (.iload_n 3, 1) := by decide +kernel
theorem dL_same_102 : decode cL_same 102 = .ok (.bipush 6, 2) := by decide +kernel
theorem dL_same_104 : decode cL_same 104 = .ok (.if_icmp .ge 64, 3) := by decide +kernel
theorem dL_same_107 : decode cL_same 107 = .ok (.iload_n 2, 1) := by decide +kernel
theorem dL_same_108 : decode cL_same 108 = .ok (.ifCond .eq 60, 3) := by decide +kernel
theorem dL_same_111 : decode cL_same 111 = .ok (.aload_n 0, 1) := by decide +kernel
theorem dL_same_112 : decode cL_same 112 = .ok (.iload_n 3, 1) := by decide +kernel
theorem dL_same_113 : decode cL_same 113 = .ok (.iconst 0, 1) := by decide +kernel
theorem dL_same_114 : decode cL_same 114 = .ok (.invokestatic 114, 3) := by decide +kernel
theorem dL_same_117 : decode cL_same 117 = .ok (.aload_n 1, 1) := by decide +kernel
theorem dL_same_118 : decode cL_same 118 = .ok (.iload_n 3, 1) := by decide +kernel
theorem dL_same_119 : decode cL_same 119 = .ok (.iconst 0, 1) := by decide +kernel
theorem dL_same_120 : decode cL_same 120 = .ok (.invokestatic 114, 3) := by decide +kernel
theorem dL_same_123 : decode cL_same 123 = .ok (.if_icmp .ne 37, 3) := by decide +kernel
theorem dL_same_126 : decode cL_same 126 = .ok (.aload_n 0, 1) := by decide +kernel
theorem dL_same_127 : decode cL_same 127 = .ok (.iload_n 3, 1) := by decide +kernel
theorem dL_same_128 : decode cL_same 128 = .ok (.iconst 0, 1) := by decide +kernel
theorem dL_same_129 : decode cL_same 129 = .ok (.invokestatic 119, 3) := by decide +kernel
theorem dL_same_132 : decode cL_same 132 = .ok (.aload_n 1, 1) := by decide +kernel
theorem dL_same_133 : decode cL_same 133 = .ok (.iload_n 3, 1) := by decide +kernel
theorem dL_same_134 : decode cL_same 134 = .ok (.iconst 0, 1) := by decide +kernel
theorem dL_same_135 : decode cL_same 135 = .ok (.invokestatic 119, 3) := by decide +kernel
theorem dL_same_138 : decode cL_same 138 = .ok (.if_icmp .ne 22, 3) := by decide +kernel
theorem dL_same_141 : decode cL_same 141 = .ok (.aload_n 0, 1) := by decide +kernel
theorem dL_same_142 : decode cL_same 142 = .ok (.iload_n 3, 1) := by decide +kernel
theorem dL_same_143 : decode cL_same 143 = .ok (.iconst 4, 1) := by decide +kernel
theorem dL_same_144 : decode cL_same 144 = .ok (.invokestatic 123, 3) := by decide +kernel
theorem dL_same_147 : decode cL_same 147 = .ok (.aload_n 1, 1) := by decide +kernel
theorem dL_same_148 : decode cL_same 148 = .ok (.iload_n 3, 1) := by decide +kernel
theorem dL_same_149 : decode cL_same 149 = .ok (.iconst 4, 1) := by decide +kernel
theorem dL_same_150 : decode cL_same 150 = .ok (.invokestatic 123, 3) := by decide +kernel
theorem dL_same_153 : decode cL_same 153 = .ok (.if_icmp .ne 7, 3) := by decide +kernel
theorem dL_same_156 : decode cL_same 156 = .ok (.iconst 1, 1) := by decide +kernel
theorem dL_same_157 : decode cL_same 157 = .ok (.goto 4, 3) := by decide +kernel
theorem dL_same_160 : decode cL_same 160 = .ok (.iconst 0, 1) := by decide +kernel
theorem dL_same_161 : decode cL_same 161 = .ok (.istore_n 2, 1) := by decide +kernel
theorem dL_same_162 : decode cL_same 162 = .ok (.iinc 3 1, 3) := by decide +kernel
theorem dL_same_165 : decode cL_same 165 = .ok (.goto (-64), 3) := by decide +kernel
theorem dL_same_168 : decode cL_same 168 = .ok (.iload_n 2, 1) := by decide +kernel
theorem dL_same_169 : decode cL_same 169 = .ok (.ireturn, 1) := by decide +kernel
theorem dL_isLength_0 : decode cL_isLength 0 = .ok (.aload_n 0, 1) := by decide +kernel
theorem dL_isLength_1 : decode cL_isLength 1 = .ok (.iload_n 1, 1) := by decide +kernel
theorem dL_isLength_2 : decode cL_isLength 2 = .ok (.iconst 1, 1) := by decide +kernel
theorem dL_isLength_3 : decode cL_isLength 3 = .ok (.invokestatic 114, 3) := by decide +kernel
theorem dL_isLength_6 : decode cL_isLength 6 = .ok (.istore_n 3, 1) := by decide +kernel
theorem dL_isLength_7 : decode cL_isLength 7 = .ok (.aload_n 0, 1) := by decide +kernel
theorem dL_isLength_8 : decode cL_isLength 8 = .ok (.iload_n 1, 1) := by decide +kernel
theorem dL_isLength_9 : decode cL_isLength 9 = .ok (.iload_n 2, 1) := by decide +kernel
theorem dL_isLength_10 : decode cL_isLength 10 = .ok (.invokestatic 123, 3) := by decide +kernel
theorem dL_isLength_13 : decode cL_isLength 13 = .ok (.istore 4, 2) := by decide +kernel
theorem dL_isLength_15 : decode cL_isLength 15 = .ok (.iload_n 3, 1) := by decide +kernel
theorem dL_isLength_16 : decode cL_isLength 16 = .ok (.ifCond .lt 9, 3) := by decide +kernel
theorem dL_isLength_19 : decode cL_isLength 19 = .ok (.iload_n 3, 1) := by decide +kernel
theorem dL_isLength_20 : decode cL_isLength 20 = .ok (.bipush 6, 2) := by decide +kernel
theorem dL_isLength_22 : decode cL_isLength 22 = .ok (.if_icmp .le 21, 3) := by decide +kernel
theorem dL_isLength_25 : decode cL_isLength 25 = .ok (.iload_n 3, 1) := by decide +kernel
theorem dL_isLength_26 : decode cL_isLength 26 = .ok (.bipush 6, 2) := by decide +kernel
theorem dL_isLength_28 : decode cL_isLength 28 = .ok (.if_icmp .gt 9, 3) := by decide +kernel
theorem dL_isLength_31 : decode cL_isLength 31 = .ok (.iload 4, 2) := by decide +kernel
theorem dL_isLength_33 : decode cL_isLength 33 = .ok (.iconst (-1), 1) := by decide +kernel
theorem dL_isLength_34 : decode cL_isLength 34 = .ok (.if_icmp .ne 7, 3) := by decide +kernel
theorem dL_isLength_37 : decode cL_isLength 37 = .ok (.iconst 1, 1) := by decide +kernel
theorem dL_isLength_38 : decode cL_isLength 38 = .ok (.goto 4, 3) := by decide +kernel
theorem dL_isLength_41 : decode cL_isLength 41 = .ok (.iconst 0, 1) := by decide +kernel
theorem dL_isLength_42 : decode cL_isLength 42 = .ok (.ireturn, 1) := by decide +kernel
theorem dL_isLength_43 : decode cL_isLength 43 = .ok (.aload_n 0, 1) := by decide +kernel
theorem dL_isLength_44 : decode cL_isLength 44 = .ok (.invokevirtual 77, 3) := by decide +kernel
theorem dL_isLength_47 : decode cL_isLength 47 = .ok (.ifCond .ge 8, 3) := by decide +kernel
theorem dL_isLength_50 : decode cL_isLength 50 = .ok (.bipush (-9), 2) := by decide +kernel
theorem dL_isLength_52 : decode cL_isLength 52 = .ok (.goto 11, 3) := by decide +kernel
theorem dL_isLength_55 : decode cL_isLength 55 = .ok (.aload_n 0, 1) := by decide +kernel
theorem dL_isLength_56 : decode cL_isLength 56 = .ok (.bipush 65, 2) := by decide +kernel
theorem dL_isLength_58 : decode cL_isLength 58 = .ok (.iload_n 1, 1) := by decide +kernel
theorem dL_isLength_59 : decode cL_isLength 59 = .ok (.iadd, 1) := by decide +kernel
theorem dL_isLength_60 : decode cL_isLength 60 = .ok (.invokestatic 80, 3) := by decide +kernel
theorem dL_isLength_63 : decode cL_isLength 63 = .ok (.istore 5, 2) := by decide +kernel
theorem dL_isLength_65 : decode cL_isLength 65 = .ok (.iconst 0, 1) := by decide +kernel
theorem dL_isLength_66 : decode cL_isLength 66 = .ok (.istore 6, 2) := by decide +kernel
theorem dL_isLength_68 : decode cL_isLength 68 = .ok (.iload 6, 2) := by decide +kernel
theorem dL_isLength_70 : decode cL_isLength 70 = .ok (.iload_n 3, 1) := by decide +kernel
theorem dL_isLength_71 : decode cL_isLength 71 = .ok (.if_icmp .ge 53, 3) := by decide +kernel
theorem dL_isLength_74 : decode cL_isLength 74 = .ok (.aload_n 0, 1) := by decide +kernel
theorem dL_isLength_75 : decode cL_isLength 75 = .ok (.iload 6, 2) := by decide +kernel
theorem dL_isLength_77 : decode cL_isLength 77 = .ok (.ifCond .ne 8, 3) := by decide +kernel
theorem dL_isLength_80 : decode cL_isLength 80 = .ok (.bipush 40, 2) := by decide +kernel
theorem dL_isLength_82 : decode cL_isLength 82 = .ok (.goto 5, 3) := by decide +kernel
theorem dL_isLength_85 : decode cL_isLength 85 = .ok (.bipush 44, 2) := by decide +kernel
theorem dL_isLength_87 : decode cL_isLength 87 = .ok (.invokestatic 80, 3) := by decide +kernel
theorem dL_isLength_90 : decode cL_isLength 90 = .ok (.istore 5, 2) := by decide +kernel
theorem dL_isLength_92 : decode cL_isLength 92 = .ok (.iconst 0, 1) := by decide +kernel
theorem dL_isLength_93 : decode cL_isLength 93 = .ok (.istore 7, 2) := by decide +kernel
theorem dL_isLength_95 : decode cL_isLength 95 = .ok (.iload 7, 2) := by decide +kernel
theorem dL_isLength_97 : decode cL_isLength 97 = .ok (.iload_n 2, 1) := by decide +kernel
theorem dL_isLength_98 : decode cL_isLength 98 = .ok (.if_icmp .ge 20, 3) := by decide +kernel
theorem dL_isLength_101 : decode cL_isLength 101 = .ok (.aload_n 0, 1) := by decide +kernel
theorem dL_isLength_102 : decode cL_isLength 102 = .ok (.bipush 97, 2) := by decide +kernel
theorem dL_isLength_104 : decode cL_isLength 104 = .ok (.iload 7, 2) := by decide +kernel
theorem dL_isLength_106 : decode cL_isLength 106 = .ok (.iadd, 1) := by decide +kernel
theorem dL_isLength_107 : decode cL_isLength 107 = .ok (.invokestatic 80, 3) := by decide +kernel
theorem dL_isLength_110 : decode cL_isLength 110 = .ok (.istore 5, 2) := by decide +kernel
theorem dL_isLength_112 : decode cL_isLength 112 = .ok (.iinc 7 1, 3) := by decide +kernel
theorem dL_isLength_115 : decode cL_isLength 115 = .ok (.goto (-20), 3) := by decide +kernel
theorem dL_isLength_118 : decode cL_isLength 118 = .ok (.iinc 6 1, 3) := by decide +kernel
theorem dL_isLength_121 : decode cL_isLength 121 = .ok (.goto (-53), 3) := by decide +kernel
theorem dL_isLength_124 : decode cL_isLength 124 = .ok (.iload_n 3, 1) := by decide +kernel
theorem dL_isLength_125 : decode cL_isLength 125 = .ok (.ifCond .le 12, 3) := by decide +kernel
theorem dL_isLength_128 : decode cL_isLength 128 = .ok (.aload_n 0, 1) := by decide +kernel
theorem dL_isLength_129 : decode cL_isLength 129 = .ok (.bipush 41, 2) := by decide +kernel
theorem dL_isLength_131 : decode cL_isLength 131 = .ok (.invokestatic 80, 3) := by decide +kernel
theorem dL_isLength_134 : decode cL_isLength 134 = .ok (.goto 5, 3) := by decide +kernel
theorem dL_isLength_137 : decode cL_isLength 137 = .ok (.iload 5, 2) := by decide +kernel
theorem dL_isLength_139 : decode cL_isLength 139 = .ok (.istore 5, 2) := by decide +kernel
theorem dL_isLength_141 : decode cL_isLength 141 = .ok (.iload 5, 2) := by decide +kernel
theorem dL_isLength_143 : decode cL_isLength 143 = .ok (.ifCond .le 32, 3) := by decide +kernel
theorem dL_isLength_146 : decode cL_isLength 146 = .ok (.aload_n 0, 1) := by decide +kernel
theorem dL_isLength_147 : decode cL_isLength 147 = .ok (.invokestatic 104, 3) := by decide +kernel
theorem dL_isLength_150 : decode cL_isLength 150 = .ok (.iload 4, 2) := by decide +kernel
theorem dL_isLength_152 : decode cL_isLength 152 = .ok (.if_icmp .ne 23, 3) := by decide +kernel
theorem dL_isLength_155 : decode cL_isLength 155 = .ok (.aload_n 0, 1) := by decide +kernel
theorem dL_isLength_156 : decode cL_isLength 156 = .ok (.invokestatic 92, 3) := by decide +kernel
theorem dL_isLength_159 : decode cL_isLength 159 = .ok (.ifCond .lt 16, 3) := by decide +kernel
theorem dL_isLength_162 : decode cL_isLength 162 = .ok (.aload_n 0, 1) := by decide +kernel
theorem dL_isLength_163 : decode cL_isLength 163 = .ok (.invokevirtual 77, 3) := by decide +kernel
theorem dL_isLength_166 : decode cL_isLength 166 = .ok (.iload 5, 2) := by decide +kernel
theorem dL_isLength_168 : decode cL_isLength 168 = .ok (.if_icmp .ne 7, 3) := by decide +kernel
theorem dL_isLength_171 : decode cL_isLength 171 = .ok (.iconst 1, 1) := by decide +kernel
theorem dL_isLength_172 : decode cL_isLength 172 = .ok (.goto 4, 3) := by decide +kernel
theorem dL_isLength_175 : decode cL_isLength 175 = .ok (.iconst 0, 1) := by decide +kernel
theorem dL_isLength_176 : decode cL_isLength 176 = .ok (.ireturn, 1) := by decide +kernel
theorem dL_refuses_0 : decode cL_refuses 0 = .ok (.iload_n 1, 1) := by decide +kernel
theorem dL_refuses_1 : decode cL_refuses 1 = .ok (.iconst 2, 1) := by decide +kernel
theorem dL_refuses_2 : decode cL_refuses 2 = .ok (.irem, 1) := by decide +kernel
theorem dL_refuses_3 : decode cL_refuses 3 = .ok (.ifCond .ne 10, 3) := by decide +kernel
theorem dL_refuses_6 : decode cL_refuses 6 = .ok (.bipush 26, 2) := by decide +kernel
theorem dL_refuses_8 : decode cL_refuses 8 = .ok (.iload_n 1, 1) := by decide +kernel
theorem dL_refuses_9 : decode cL_refuses 9 = .ok (.iadd, 1) := by decide +kernel
theorem dL_refuses_10 : decode cL_refuses 10 = .ok (.goto 6, 3) := by decide +kernel
theorem dL_refuses_13 : decode cL_refuses 13 = .ok (.iconst (-1), 1) := by decide +kernel
theorem dL_refuses_14 : decode cL_refuses 14 = .ok (.iload_n 1, 1) := by decide +kernel
theorem dL_refuses_15 : decode cL_refuses 15 = .ok (.isub, 1) := by decide +kernel
theorem dL_refuses_16 : decode cL_refuses 16 = .ok (.istore_n 2, 1) := by decide +kernel
theorem dL_refuses_17 : decode cL_refuses 17 = .ok (.aload_n 0, 1) := by decide +kernel
theorem dL_refuses_18 : decode cL_refuses 18 = .ok (.iload_n 2, 1) := by decide +kernel
theorem dL_refuses_19 : decode cL_refuses 19 = .ok (.invokestatic 85, 3) := by decide +kernel
theorem dL_refuses_22 : decode cL_refuses 22 = .ok (.bipush (-3), 2) := by decide +kernel
theorem dL_refuses_24 : decode cL_refuses 24 = .ok (.if_icmp .ne 295, 3) := by decide +kernel
theorem dL_refuses_27 : decode cL_refuses 27 = .ok (.aload_n 0, 1) := by decide +kernel
theorem dL_refuses_28 : decode cL_refuses 28 = .ok (.iload_n 2, 1) := by decide +kernel
theorem dL_refuses_29 : decode cL_refuses 29 = .ok (.iconst 0, 1) := by decide +kernel
theorem dL_refuses_30 : decode cL_refuses 30 = .ok (.invokestatic 87, 3) := by decide +kernel
theorem dL_refuses_33 : decode cL_refuses 33 = .ok (.bipush (-3), 2) := by decide +kernel
theorem dL_refuses_35 : decode cL_refuses 35 = .ok (.if_icmp .ne 284, 3) := by decide +kernel
theorem dL_refuses_38 : decode cL_refuses 38 = .ok (.aload_n 0, 1) := by decide +kernel
theorem dL_refuses_39 : decode cL_refuses 39 = .ok (.iconst 0, 1) := by decide +kernel
theorem dL_refuses_40 : decode cL_refuses 40 = .ok (.iload_n 2, 1) := by decide +kernel
theorem dL_refuses_41 : decode cL_refuses 41 = .ok (.invokestatic 87, 3) := by decide +kernel
theorem dL_refuses_44 : decode cL_refuses 44 = .ok (.bipush (-3), 2) := by decide +kernel
theorem dL_refuses_46 : decode cL_refuses 46 = .ok (.if_icmp .ne 273, 3) := by decide +kernel
theorem dL_refuses_49 : decode cL_refuses 49 = .ok (.aload_n 0, 1) := by decide +kernel
theorem dL_refuses_50 : decode cL_refuses 50 = .ok (.iconst 0, 1) := by decide +kernel
theorem dL_refuses_51 : decode cL_refuses 51 = .ok (.invokestatic 90, 3) := by decide +kernel
theorem dL_refuses_54 : decode cL_refuses 54 = .ok (.bipush (-2), 2) := by decide +kernel
theorem dL_refuses_56 : decode cL_refuses 56 = .ok (.if_icmp .ne 263, 3) := by decide +kernel
theorem dL_refuses_59 : decode cL_refuses 59 = .ok (.aload_n 0, 1) := by decide +kernel
theorem dL_refuses_60 : decode cL_refuses 60 = .ok (.bipush 13, 2) := by decide +kernel
theorem dL_refuses_62 : decode cL_refuses 62 = .ok (.iload_n 1, 1) := by decide +kernel
theorem dL_refuses_63 : decode cL_refuses 63 = .ok (.iadd, 1) := by decide +kernel
theorem dL_refuses_64 : decode cL_refuses 64 = .ok (.invokestatic 90, 3) := by decide +kernel
theorem dL_refuses_67 : decode cL_refuses 67 = .ok (.bipush (-2), 2) := by decide +kernel
theorem dL_refuses_69 : decode cL_refuses 69 = .ok (.if_icmp .ne 250, 3) := by decide +kernel
theorem dL_refuses_72 : decode cL_refuses 72 = .ok (.aload_n 0, 1) := by decide +kernel
theorem dL_refuses_73 : decode cL_refuses 73 = .ok (.bipush 32, 2) := by decide +kernel
theorem dL_refuses_75 : decode cL_refuses 75 = .ok (.iload_n 1, 1) := by decide +kernel
theorem dL_refuses_76 : decode cL_refuses 76 = .ok (.isub, 1) := by decide +kernel
theorem dL_refuses_77 : decode cL_refuses 77 = .ok (.invokestatic 80, 3) := by decide +kernel
theorem dL_refuses_80 : decode cL_refuses 80 = .ok (.bipush (-2), 2) := by decide +kernel
theorem dL_refuses_82 : decode cL_refuses 82 = .ok (.if_icmp .ne 237, 3) := by decide +kernel
theorem dL_refuses_85 : decode cL_refuses 85 = .ok (.aload_n 0, 1) := by decide +kernel
theorem dL_refuses_86 : decode cL_refuses 86 = .ok (.bipush 127, 2) := by decide +kernel
theorem dL_refuses_88 : decode cL_refuses 88 = .ok (.iload_n 1, 1) := by decide +kernel
theorem dL_refuses_89 : decode cL_refuses 89 = .ok (.iadd, 1) := by decide +kernel
theorem dL_refuses_90 : decode cL_refuses 90 = .ok (.invokestatic 80, 3) := by decide +kernel
theorem dL_refuses_93 : decode cL_refuses 93 = .ok (.bipush (-2), 2) := by decide +kernel
theorem dL_refuses_95 : decode cL_refuses 95 = .ok (.if_icmp .ne 224, 3) := by decide +kernel
theorem dL_refuses_98 : decode cL_refuses 98 = .ok (.aload_n 0, 1) := by decide +kernel
theorem dL_refuses_99 : decode cL_refuses 99 = .ok (.iload_n 2, 1) := by decide +kernel
theorem dL_refuses_100 : decode cL_refuses 100 = .ok (.invokestatic 132, 3) := by decide +kernel
theorem dL_refuses_103 : decode cL_refuses 103 = .ok (.bipush (-3), 2) := by decide +kernel
theorem dL_refuses_105 : decode cL_refuses 105 = .ok (.if_icmp .ne 214, 3) := by decide +kernel
theorem dL_refuses_108 : decode cL_refuses 108 = .ok (.aload_n 0, 1) := by decide +kernel
theorem dL_refuses_109 : decode cL_refuses 109 = .ok (.iconst 2, 1) := by decide +kernel
theorem dL_refuses_110 : decode cL_refuses 110 = .ok (.iload_n 1, 1) := by decide +kernel
theorem dL_refuses_111 : decode cL_refuses 111 = .ok (.iadd, 1) := by decide +kernel
theorem dL_refuses_112 : decode cL_refuses 112 = .ok (.invokestatic 95, 3) := by decide +kernel
theorem dL_refuses_115 : decode cL_refuses 115 = .ok (.bipush (-2), 2) := by decide +kernel
theorem dL_refuses_117 : decode cL_refuses 117 = .ok (.if_icmp .ne 202, 3) := by decide +kernel
theorem dL_refuses_120 : decode cL_refuses 120 = .ok (.aload_n 0, 1) := by decide +kernel
theorem dL_refuses_121 : decode cL_refuses 121 = .ok (.iconst (-1), 1) := by decide +kernel
theorem dL_refuses_122 : decode cL_refuses 122 = .ok (.iload_n 1, 1) := by decide +kernel
theorem dL_refuses_123 : decode cL_refuses 123 = .ok (.isub, 1) := by decide +kernel
theorem dL_refuses_124 : decode cL_refuses 124 = .ok (.invokestatic 95, 3) := by decide +kernel
theorem dL_refuses_127 : decode cL_refuses 127 = .ok (.bipush (-2), 2) := by decide +kernel
theorem dL_refuses_129 : decode cL_refuses 129 = .ok (.if_icmp .ne 190, 3) := by decide +kernel
theorem dL_refuses_132 : decode cL_refuses 132 = .ok (.aload_n 0, 1) := by decide +kernel
theorem dL_refuses_133 : decode cL_refuses 133 = .ok (.iconst 2, 1) := by decide +kernel
theorem dL_refuses_134 : decode cL_refuses 134 = .ok (.iload_n 1, 1) := by decide +kernel
theorem dL_refuses_135 : decode cL_refuses 135 = .ok (.iadd, 1) := by decide +kernel
theorem dL_refuses_136 : decode cL_refuses 136 = .ok (.invokestatic 97, 3) := by decide +kernel
theorem dL_refuses_139 : decode cL_refuses 139 = .ok (.bipush (-2), 2) := by decide +kernel
theorem dL_refuses_141 : decode cL_refuses 141 = .ok (.if_icmp .ne 178, 3) := by decide +kernel
theorem dL_refuses_144 : decode cL_refuses 144 = .ok (.aload_n 0, 1) := by decide +kernel
theorem dL_refuses_145 : decode cL_refuses 145 = .ok (.iload_n 2, 1) := by decide +kernel
theorem dL_refuses_146 : decode cL_refuses 146 = .ok (.iconst 0, 1) := by decide +kernel
theorem dL_refuses_147 : decode cL_refuses 147 = .ok (.invokestatic 114, 3) := by decide +kernel
theorem dL_refuses_150 : decode cL_refuses 150 = .ok (.bipush (-3), 2) := by decide +kernel
theorem dL_refuses_152 : decode cL_refuses 152 = .ok (.if_icmp .ne 167, 3) := by decide +kernel
theorem dL_refuses_155 : decode cL_refuses 155 = .ok (.aload_n 0, 1) := by decide +kernel
theorem dL_refuses_156 : decode cL_refuses 156 = .ok (.iconst 0, 1) := by decide +kernel
theorem dL_refuses_157 : decode cL_refuses 157 = .ok (.bipush 6, 2) := by decide +kernel
theorem dL_refuses_159 : decode cL_refuses 159 = .ok (.iload_n 1, 1) := by decide +kernel
theorem dL_refuses_160 : decode cL_refuses 160 = .ok (.iadd, 1) := by decide +kernel
theorem dL_refuses_161 : decode cL_refuses 161 = .ok (.invokestatic 114, 3) := by decide +kernel
theorem dL_refuses_164 : decode cL_refuses 164 = .ok (.bipush (-2), 2) := by decide +kernel
theorem dL_refuses_166 : decode cL_refuses 166 = .ok (.if_icmp .ne 153, 3) := by decide +kernel
theorem dL_refuses_169 : decode cL_refuses 169 = .ok (.aload_n 0, 1) := by decide +kernel
theorem dL_refuses_170 : decode cL_refuses 170 = .ok (.iload_n 2, 1) := by decide +kernel
theorem dL_refuses_171 : decode cL_refuses 171 = .ok (.iconst 0, 1) := by decide +kernel
theorem dL_refuses_172 : decode cL_refuses 172 = .ok (.invokestatic 119, 3) := by decide +kernel
theorem dL_refuses_175 : decode cL_refuses 175 = .ok (.bipush (-3), 2) := by decide +kernel
theorem dL_refuses_177 : decode cL_refuses 177 = .ok (.if_icmp .ne 142, 3) := by decide +kernel
theorem dL_refuses_180 : decode cL_refuses 180 = .ok (.aload_n 0, 1) := by decide +kernel
theorem dL_refuses_181 : decode cL_refuses 181 = .ok (.iconst 0, 1) := by decide +kernel
theorem dL_refuses_182 : decode cL_refuses 182 = .ok (.iconst (-1), 1) := by decide +kernel
theorem dL_refuses_183 : decode cL_refuses 183 = .ok (.iload_n 1, 1) := by decide +kernel
theorem dL_refuses_184 : decode cL_refuses 184 = .ok (.isub, 1) := by decide +kernel
theorem dL_refuses_185 : decode cL_refuses 185 = .ok (.invokestatic 119, 3) := by decide +kernel
theorem dL_refuses_188 : decode cL_refuses 188 = .ok (.bipush (-2), 2) := by decide +kernel
theorem dL_refuses_190 : decode cL_refuses 190 = .ok (.if_icmp .ne 129, 3) := by decide +kernel
theorem dL_refuses_193 : decode cL_refuses 193 = .ok (.aload_n 0, 1) := by decide +kernel
theorem dL_refuses_194 : decode cL_refuses 194 = .ok (.iload_n 2, 1) := by decide +kernel
theorem dL_refuses_195 : decode cL_refuses 195 = .ok (.invokestatic 121, 3) := by decide +kernel
theorem dL_refuses_198 : decode cL_refuses 198 = .ok (.bipush (-3), 2) := by decide +kernel
theorem dL_refuses_200 : decode cL_refuses 200 = .ok (.if_icmp .ne 119, 3) := by decide +kernel
theorem dL_refuses_203 : decode cL_refuses 203 = .ok (.aload_n 0, 1) := by decide +kernel
theorem dL_refuses_204 : decode cL_refuses 204 = .ok (.iload_n 2, 1) := by decide +kernel
theorem dL_refuses_205 : decode cL_refuses 205 = .ok (.invokestatic 134, 3) := by decide +kernel
theorem dL_refuses_208 : decode cL_refuses 208 = .ok (.bipush (-3), 2) := by decide +kernel
theorem dL_refuses_210 : decode cL_refuses 210 = .ok (.if_icmp .ne 109, 3) := by decide +kernel
theorem dL_refuses_213 : decode cL_refuses 213 = .ok (.aload_n 0, 1) := by decide +kernel
theorem dL_refuses_214 : decode cL_refuses 214 = .ok (.iconst (-1), 1) := by decide +kernel
theorem dL_refuses_215 : decode cL_refuses 215 = .ok (.iload_n 1, 1) := by decide +kernel
theorem dL_refuses_216 : decode cL_refuses 216 = .ok (.isub, 1) := by decide +kernel
theorem dL_refuses_217 : decode cL_refuses 217 = .ok (.invokestatic 108, 3) := by decide +kernel
theorem dL_refuses_220 : decode cL_refuses 220 = .ok (.bipush (-2), 2) := by decide +kernel
theorem dL_refuses_222 : decode cL_refuses 222 = .ok (.if_icmp .ne 97, 3) := by decide +kernel
theorem dL_refuses_225 : decode cL_refuses 225 = .ok (.aload_n 0, 1) := by decide +kernel
theorem dL_refuses_226 : decode cL_refuses 226 = .ok (.bipush 8, 2) := by decide +kernel
theorem dL_refuses_228 : decode cL_refuses 228 = .ok (.iload_n 1, 1) := by decide +kernel
theorem dL_refuses_229 : decode cL_refuses 229 = .ok (.iadd, 1) := by decide +kernel
theorem dL_refuses_230 : decode cL_refuses 230 = .ok (.invokestatic 106, 3) := by decide +kernel
theorem dL_refuses_233 : decode cL_refuses 233 = .ok (.bipush (-2), 2) := by decide +kernel
theorem dL_refuses_235 : decode cL_refuses 235 = .ok (.if_icmp .ne 84, 3) := by decide +kernel
theorem dL_refuses_238 : decode cL_refuses 238 = .ok (.aload_n 0, 1) := by decide +kernel
theorem dL_refuses_239 : decode cL_refuses 239 = .ok (.iconst (-1), 1) := by decide +kernel
theorem dL_refuses_240 : decode cL_refuses 240 = .ok (.iload_n 1, 1) := by decide +kernel
theorem dL_refuses_241 : decode cL_refuses 241 = .ok (.isub, 1) := by decide +kernel
theorem dL_refuses_242 : decode cL_refuses 242 = .ok (.iconst 0, 1) := by decide +kernel
theorem dL_refuses_243 : decode cL_refuses 243 = .ok (.invokestatic 110, 3) := by decide +kernel
theorem dL_refuses_246 : decode cL_refuses 246 = .ok (.bipush (-2), 2) := by decide +kernel
theorem dL_refuses_248 : decode cL_refuses 248 = .ok (.if_icmp .ne 71, 3) := by decide +kernel
theorem dL_refuses_251 : decode cL_refuses 251 = .ok (.aload_n 0, 1) := by decide +kernel
theorem dL_refuses_252 : decode cL_refuses 252 = .ok (.iconst 0, 1) := by decide +kernel
theorem dL_refuses_253 : decode cL_refuses 253 = .ok (.bipush 6, 2) := by decide +kernel
theorem dL_refuses_255 : decode cL_refuses 255 = .ok (.iload_n 1, 1) := by decide +kernel
theorem dL_refuses_256 : decode cL_refuses 256 = .ok (.iadd, 1) := by decide +kernel
theorem dL_refuses_257 : decode cL_refuses 257 = .ok (.invokestatic 110, 3) := by decide +kernel
theorem dL_refuses_260 : decode cL_refuses 260 = .ok (.bipush (-2), 2) := by decide +kernel
theorem dL_refuses_262 : decode cL_refuses 262 = .ok (.if_icmp .ne 57, 3) := by decide +kernel
theorem dL_refuses_265 : decode cL_refuses 265 = .ok (.aload_n 0, 1) := by decide +kernel
theorem dL_refuses_266 : decode cL_refuses 266 = .ok (.iload_n 2, 1) := by decide +kernel
theorem dL_refuses_267 : decode cL_refuses 267 = .ok (.iconst 0, 1) := by decide +kernel
theorem dL_refuses_268 : decode cL_refuses 268 = .ok (.invokestatic 123, 3) := by decide +kernel
theorem dL_refuses_271 : decode cL_refuses 271 = .ok (.bipush (-3), 2) := by decide +kernel
theorem dL_refuses_273 : decode cL_refuses 273 = .ok (.if_icmp .ne 46, 3) := by decide +kernel
theorem dL_refuses_276 : decode cL_refuses 276 = .ok (.aload_n 0, 1) := by decide +kernel
theorem dL_refuses_277 : decode cL_refuses 277 = .ok (.iconst 0, 1) := by decide +kernel
theorem dL_refuses_278 : decode cL_refuses 278 = .ok (.bipush 21, 2) := by decide +kernel
theorem dL_refuses_280 : decode cL_refuses 280 = .ok (.iload_n 1, 1) := by decide +kernel
theorem dL_refuses_281 : decode cL_refuses 281 = .ok (.iadd, 1) := by decide +kernel
theorem dL_refuses_282 : decode cL_refuses 282 = .ok (.invokestatic 123, 3) := by decide +kernel
theorem dL_refuses_285 : decode cL_refuses 285 = .ok (.bipush (-2), 2) := by decide +kernel
theorem dL_refuses_287 : decode cL_refuses 287 = .ok (.if_icmp .ne 32, 3) := by decide +kernel
theorem dL_refuses_290 : decode cL_refuses 290 = .ok (.aload_n 0, 1) := by decide +kernel
theorem dL_refuses_291 : decode cL_refuses 291 = .ok (.bipush 8, 2) := by decide +kernel
theorem dL_refuses_293 : decode cL_refuses 293 = .ok (.iload_n 1, 1) := by decide +kernel
theorem dL_refuses_294 : decode cL_refuses 294 = .ok (.iadd, 1) := by decide +kernel
theorem dL_refuses_295 : decode cL_refuses 295 = .ok (.invokestatic 112, 3) := by decide +kernel
theorem dL_refuses_298 : decode cL_refuses 298 = .ok (.bipush (-2), 2) := by decide +kernel
theorem dL_refuses_300 : decode cL_refuses 300 = .ok (.if_icmp .ne 19, 3) := by decide +kernel
theorem dL_refuses_303 : decode cL_refuses 303 = .ok (.aload_n 0, 1) := by decide +kernel
theorem dL_refuses_304 : decode cL_refuses 304 = .ok (.iconst (-1), 1) := by decide +kernel
theorem dL_refuses_305 : decode cL_refuses 305 = .ok (.iload_n 1, 1) := by decide +kernel
theorem dL_refuses_306 : decode cL_refuses 306 = .ok (.isub, 1) := by decide +kernel
theorem dL_refuses_307 : decode cL_refuses 307 = .ok (.invokestatic 112, 3) := by decide +kernel
theorem dL_refuses_310 : decode cL_refuses 310 = .ok (.bipush (-2), 2) := by decide +kernel
theorem dL_refuses_312 : decode cL_refuses 312 = .ok (.if_icmp .ne 7, 3) := by decide +kernel
theorem dL_refuses_315 : decode cL_refuses 315 = .ok (.iconst 1, 1) := by decide +kernel
theorem dL_refuses_316 : decode cL_refuses 316 = .ok (.goto 4, 3) := by decide +kernel
theorem dL_refuses_319 : decode cL_refuses 319 = .ok (.iconst 0, 1) := by decide +kernel
theorem dL_refuses_320 : decode cL_refuses 320 = .ok (.istore_n 3, 1) := by decide +kernel
theorem dL_refuses_321 : decode cL_refuses 321 = .ok (.iload_n 3, 1) := by decide +kernel
theorem dL_refuses_322 : decode cL_refuses 322 = .ok (.ifCond .eq 39, 3) := by decide +kernel
theorem dL_refuses_325 : decode cL_refuses 325 = .ok (.aload_n 0, 1) := by decide +kernel
theorem dL_refuses_326 : decode cL_refuses 326 = .ok (.bipush 25, 2) := by decide +kernel
theorem dL_refuses_328 : decode cL_refuses 328 = .ok (.invokestatic 85, 3) := by decide +kernel
theorem dL_refuses_331 : decode cL_refuses 331 = .ok (.bipush (-2), 2) := by decide +kernel
theorem dL_refuses_333 : decode cL_refuses 333 = .ok (.if_icmp .ne 28, 3) := by decide +kernel
theorem dL_refuses_336 : decode cL_refuses 336 = .ok (.aload_n 0, 1) := by decide +kernel
theorem dL_refuses_337 : decode cL_refuses 337 = .ok (.bipush 25, 2) := by decide +kernel
theorem dL_refuses_339 : decode cL_refuses 339 = .ok (.invokestatic 132, 3) := by decide +kernel
theorem dL_refuses_342 : decode cL_refuses 342 = .ok (.bipush (-2), 2) := by decide +kernel
theorem dL_refuses_344 : decode cL_refuses 344 = .ok (.if_icmp .ne 17, 3) := by decide +kernel
theorem dL_refuses_347 : decode cL_refuses 347 = .ok (.aload_n 0, 1) := by decide +kernel
theorem dL_refuses_348 : decode cL_refuses 348 = .ok (.iload_n 2, 1) := by decide +kernel
theorem dL_refuses_349 : decode cL_refuses 349 = .ok (.invokestatic 102, 3) := by decide +kernel
theorem dL_refuses_352 : decode cL_refuses 352 = .ok (.bipush (-3), 2) := by decide +kernel
theorem dL_refuses_354 : decode cL_refuses 354 = .ok (.if_icmp .ne 7, 3) := by decide +kernel
theorem dL_refuses_357 : decode cL_refuses 357 = .ok (.iconst 1, 1) := by decide +kernel
theorem dL_refuses_358 : decode cL_refuses 358 = .ok (.goto 4, 3) := by decide +kernel
theorem dL_refuses_361 : decode cL_refuses 361 = .ok (.iconst 0, 1) := by decide +kernel
theorem dL_refuses_362 : decode cL_refuses 362 = .ok (.ireturn, 1) := by decide +kernel
theorem dL_law_0 : decode cL_law 0 = .ok (.new 10, 3) := by decide +kernel
theorem dL_law_3 : decode cL_law 3 = .ok (.dup, 1) := by decide +kernel
theorem dL_law_4 : decode cL_law 4 = .ok (.invokespecial 136, 3) := by decide +kernel
theorem dL_law_7 : decode cL_law 7 = .ok (.astore_n 1, 1) := by decide +kernel
theorem dL_law_8 : decode cL_law 8 = .ok (.new 10, 3) := by decide +kernel
theorem dL_law_11 : decode cL_law 11 = .ok (.dup, 1) := by decide +kernel
theorem dL_law_12 : decode cL_law 12 = .ok (.invokespecial 136, 3) := by decide +kernel
theorem dL_law_15 : decode cL_law 15 = .ok (.astore_n 2, 1) := by decide +kernel
theorem dL_law_16 : decode cL_law 16 = .ok (.aload_n 1, 1) := by decide +kernel
theorem dL_law_17 : decode cL_law 17 = .ok (.invokestatic 92, 3) := by decide +kernel
theorem dL_law_20 : decode cL_law 20 = .ok (.bipush (-2), 2) := by decide +kernel
theorem dL_law_22 : decode cL_law 22 = .ok (.if_icmp .ne 59, 3) := by decide +kernel
theorem dL_law_25 : decode cL_law 25 = .ok (.aload_n 1, 1) := by decide +kernel
theorem dL_law_26 : decode cL_law 26 = .ok (.iconst 0, 1) := by decide +kernel
theorem dL_law_27 : decode cL_law 27 = .ok (.invokestatic 97, 3) := by decide +kernel
theorem dL_law_30 : decode cL_law 30 = .ok (.bipush (-3), 2) := by decide +kernel
theorem dL_law_32 : decode cL_law 32 = .ok (.if_icmp .ne 49, 3) := by decide +kernel
theorem dL_law_35 : decode cL_law 35 = .ok (.aload_n 1, 1) := by decide +kernel
theorem dL_law_36 : decode cL_law 36 = .ok (.iconst 2, 1) := by decide +kernel
theorem dL_law_37 : decode cL_law 37 = .ok (.invokestatic 112, 3) := by decide +kernel
theorem dL_law_40 : decode cL_law 40 = .ok (.bipush 8, 2) := by decide +kernel
theorem dL_law_42 : decode cL_law 42 = .ok (.if_icmp .ne 39, 3) := by decide +kernel
theorem dL_law_45 : decode cL_law 45 = .ok (.aload_n 1, 1) := by decide +kernel
theorem dL_law_46 : decode cL_law 46 = .ok (.invokevirtual 125, 3) := by decide +kernel
theorem dL_law_49 : decode cL_law 49 = .ok (.dconst 0, 1) := by decide +kernel
theorem dL_law_50 : decode cL_law 50 = .ok (.dcmp .l, 1) := by decide +kernel
theorem dL_law_51 : decode cL_law 51 = .ok (.ifCond .ne 30, 3) := by decide +kernel
theorem dL_law_54 : decode cL_law 54 = .ok (.aload_n 1, 1) := by decide +kernel
theorem dL_law_55 : decode cL_law 55 = .ok (.bipush 7, 2) := by decide +kernel
theorem dL_law_57 : decode cL_law 57 = .ok (.invokestatic 106, 3) := by decide +kernel
theorem dL_law_60 : decode cL_law 60 = .ok (.ifCond .ne 21, 3) := by decide +kernel
theorem dL_law_63 : decode cL_law 63 = .ok (.aload_n 1, 1) := by decide +kernel
theorem dL_law_64 : decode cL_law 64 = .ok (.invokevirtual 137, 3) := by decide +kernel
theorem dL_law_67 : decode cL_law 67 = .ok (.ifCond .ne 14, 3) := by decide +kernel
theorem dL_law_70 : decode cL_law 70 = .ok (.aload_n 1, 1) := by decide +kernel
theorem dL_law_71 : decode cL_law 71 = .ok (.invokestatic 140, 3) := by decide +kernel
theorem dL_law_74 : decode cL_law 74 = .ok (.ifCond .eq 7, 3) := by decide +kernel
theorem dL_law_77 : decode cL_law 77 = .ok (.iconst 1, 1) := by decide +kernel
theorem dL_law_78 : decode cL_law 78 = .ok (.goto 4, 3) := by decide +kernel
theorem dL_law_81 : decode cL_law 81 = .ok (.iconst 0, 1) := by decide +kernel
theorem dL_law_82 : decode cL_law 82 = .ok (.istore_n 3, 1) := by decide +kernel
theorem dL_law_83 : decode cL_law 83 = .ok (.iconst 0, 1) := by decide +kernel
theorem dL_law_84 : decode cL_law 84 = .ok (.istore 4, 2) := by decide +kernel
theorem dL_law_86 : decode cL_law 86 = .ok (.iload 4, 2) := by decide +kernel
theorem dL_law_88 : decode cL_law 88 = .ok (.bipush 30, 2) := by decide +kernel
theorem dL_law_90 : decode cL_law 90 = .ok (.if_icmp .ge 90, 3) := by decide +kernel
theorem dL_law_93 : decode cL_law 93 = .ok (.iload_n 3, 1) := by decide +kernel
theorem dL_law_94 : decode cL_law 94 = .ok (.ifCond .eq 86, 3) := by decide +kernel
theorem dL_law_97 : decode cL_law 97 = .ok (.aload_n 0, 1) := by decide +kernel
theorem dL_law_98 : decode cL_law 98 = .ok (.iload 4, 2) := by decide +kernel
theorem dL_law_100 : decode cL_law 100 = .ok (.invokestatic 144, 3) := by decide +kernel
theorem dL_law_103 : decode cL_law 103 = .ok (.istore 5, 2) := by decide +kernel
theorem dL_law_105 : decode cL_law 105 = .ok (.aload_n 1, 1) := by decide +kernel
theorem dL_law_106 : decode cL_law 106 = .ok (.iload 5, 2) := by decide +kernel
theorem dL_law_108 : decode cL_law 108 = .ok (.invokestatic 148, 3) := by decide +kernel
theorem dL_law_111 : decode cL_law 111 = .ok (.istore 6, 2) := by decide +kernel
theorem dL_law_113 : decode cL_law 113 = .ok (.iload 4, 2) := by decide +kernel
theorem dL_law_115 : decode cL_law 115 = .ok (.iconst 3, 1) := by decide +kernel
theorem dL_law_116 : decode cL_law 116 = .ok (.irem, 1) := by decide +kernel
theorem dL_law_117 : decode cL_law 117 = .ok (.ifCond .gt 15, 3) := by decide +kernel
theorem dL_law_120 : decode cL_law 120 = .ok (.aload_n 2, 1) := by decide +kernel
theorem dL_law_121 : decode cL_law 121 = .ok (.iload 5, 2) := by decide +kernel
theorem dL_law_123 : decode cL_law 123 = .ok (.ldc 151, 2) := by decide +kernel
theorem dL_law_125 : decode cL_law 125 = .ok (.irem, 1) := by decide +kernel
theorem dL_law_126 : decode cL_law 126 = .ok (.invokestatic 152, 3) := by decide +kernel
theorem dL_law_129 : decode cL_law 129 = .ok (.ifCond .eq 43, 3) := by decide +kernel
theorem dL_law_132 : decode cL_law 132 = .ok (.aload_n 2, 1) := by decide +kernel
theorem dL_law_133 : decode cL_law 133 = .ok (.iload 5, 2) := by decide +kernel
theorem dL_law_135 : decode cL_law 135 = .ok (.invokestatic 148, 3) := by decide +kernel
theorem dL_law_138 : decode cL_law 138 = .ok (.iload 6, 2) := by decide +kernel
theorem dL_law_140 : decode cL_law 140 = .ok (.if_icmp .ne 32, 3) := by decide +kernel
theorem dL_law_143 : decode cL_law 143 = .ok (.iload 4, 2) := by decide +kernel
theorem dL_law_145 : decode cL_law 145 = .ok (.iconst 2, 1) := by decide +kernel
theorem dL_law_146 : decode cL_law 146 = .ok (.irem, 1) := by decide +kernel
theorem dL_law_147 : decode cL_law 147 = .ok (.ifCond .ne 13, 3) := by decide +kernel
theorem dL_law_150 : decode cL_law 150 = .ok (.aload_n 1, 1) := by decide +kernel
theorem dL_law_151 : decode cL_law 151 = .ok (.invokestatic 140, 3) := by decide +kernel
theorem dL_law_154 : decode cL_law 154 = .ok (.ifCond .eq 18, 3) := by decide +kernel
theorem dL_law_157 : decode cL_law 157 = .ok (.goto 11, 3) := by decide +kernel
theorem dL_law_160 : decode cL_law 160 = .ok (.aload_n 1, 1) := by decide +kernel
theorem dL_law_161 : decode cL_law 161 = .ok (.aload_n 2, 1) := by decide +kernel
theorem dL_law_162 : decode cL_law 162 = .ok (.invokestatic 156, 3) := by decide +kernel
theorem dL_law_165 : decode cL_law 165 = .ok (.ifCond .eq 7, 3) := by decide +kernel
theorem dL_law_168 : decode cL_law 168 = .ok (.iconst 1, 1) := by decide +kernel
theorem dL_law_169 : decode cL_law 169 = .ok (.goto 4, 3) := by decide +kernel
theorem dL_law_172 : decode cL_law 172 = .ok (.iconst 0, 1) := by decide +kernel
theorem dL_law_173 : decode cL_law 173 = .ok (.istore_n 3, 1) := by decide +kernel
theorem dL_law_174 : decode cL_law 174 = .ok (.iinc 4 1, 3) := by decide +kernel
theorem dL_law_177 : decode cL_law 177 = .ok (.goto (-91), 3) := by decide +kernel
theorem dL_law_180 : decode cL_law 180 = .ok (.iload_n 3, 1) := by decide +kernel
theorem dL_law_181 : decode cL_law 181 = .ok (.ifCond .eq 67, 3) := by decide +kernel
theorem dL_law_184 : decode cL_law 184 = .ok (.aload_n 1, 1) := by decide +kernel
theorem dL_law_185 : decode cL_law 185 = .ok (.aload_n 2, 1) := by decide +kernel
theorem dL_law_186 : decode cL_law 186 = .ok (.invokestatic 156, 3) := by decide +kernel
theorem dL_law_189 : decode cL_law 189 = .ok (.ifCond .eq 59, 3) := by decide +kernel
theorem dL_law_192 : decode cL_law 192 = .ok (.aload_n 2, 1) := by decide +kernel
theorem dL_law_193 : decode cL_law 193 = .ok (.invokestatic 140, 3) := by decide +kernel
theorem dL_law_196 : decode cL_law 196 = .ok (.ifCond .eq 52, 3) := by decide +kernel
theorem dL_law_199 : decode cL_law 199 = .ok (.aload_n 1, 1) := by decide +kernel
theorem dL_law_200 : decode cL_law 200 = .ok (.aload_n 0, 1) := by decide +kernel
theorem dL_law_201 : decode cL_law 201 = .ok (.bipush 30, 2) := by decide +kernel
theorem dL_law_203 : decode cL_law 203 = .ok (.invokestatic 144, 3) := by decide +kernel
theorem dL_law_206 : decode cL_law 206 = .ok (.bipush 6, 2) := by decide +kernel
theorem dL_law_208 : decode cL_law 208 = .ok (.irem, 1) := by decide +kernel
theorem dL_law_209 : decode cL_law 209 = .ok (.aload_n 0, 1) := by decide +kernel
theorem dL_law_210 : decode cL_law 210 = .ok (.bipush 30, 2) := by decide +kernel
theorem dL_law_212 : decode cL_law 212 = .ok (.invokestatic 144, 3) := by decide +kernel
theorem dL_law_215 : decode cL_law 215 = .ok (.bipush 8, 2) := by decide +kernel
theorem dL_law_217 : decode cL_law 217 = .ok (.idiv, 1) := by decide +kernel
theorem dL_law_218 : decode cL_law 218 = .ok (.bipush 9, 2) := by decide +kernel
theorem dL_law_220 : decode cL_law 220 = .ok (.irem, 1) := by decide +kernel
theorem dL_law_221 : decode cL_law 221 = .ok (.invokestatic 160, 3) := by decide +kernel
theorem dL_law_224 : decode cL_law 224 = .ok (.ifCond .eq 24, 3) := by decide +kernel
theorem dL_law_227 : decode cL_law 227 = .ok (.aload_n 1, 1) := by decide +kernel
theorem dL_law_228 : decode cL_law 228 = .ok (.aload_n 0, 1) := by decide +kernel
theorem dL_law_229 : decode cL_law 229 = .ok (.bipush 31, 2) := by decide +kernel
theorem dL_law_231 : decode cL_law 231 = .ok (.invokestatic 144, 3) := by decide +kernel
theorem dL_law_234 : decode cL_law 234 = .ok (.bipush 6, 2) := by decide +kernel
theorem dL_law_236 : decode cL_law 236 = .ok (.irem, 1) := by decide +kernel
theorem dL_law_237 : decode cL_law 237 = .ok (.iconst 1, 1) := by decide +kernel
theorem dL_law_238 : decode cL_law 238 = .ok (.invokestatic 160, 3) := by decide +kernel
theorem dL_law_241 : decode cL_law 241 = .ok (.ifCond .eq 7, 3) := by decide +kernel
theorem dL_law_244 : decode cL_law 244 = .ok (.iconst 1, 1) := by decide +kernel
theorem dL_law_245 : decode cL_law 245 = .ok (.goto 4, 3) := by decide +kernel
theorem dL_law_248 : decode cL_law 248 = .ok (.iconst 0, 1) := by decide +kernel
theorem dL_law_249 : decode cL_law 249 = .ok (.ireturn, 1) := by decide +kernel
