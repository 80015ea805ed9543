theorem dX7_trace_31 : decode cX7_trace 31 = .ok (.ireturn, 1) := by decide +kernel
theorem dX7_lengthOf_0 : decode cX7_lengthOf 0 = .ok (.iload_n 1, 1) := by decide +kernel
theorem dX7_lengthOf_1 : decode cX7_lengthOf 1 = .ok (.invokestatic 52, 3) := by decide +kernel
theorem dX7_lengthOf_4 : decode cX7_lengthOf 4 = .ok (.iload_n 2, 1) := by decide +kernel
theorem dX7_lengthOf_5 : decode cX7_lengthOf 5 = .ok (.ifCond .lt 9, 3) := by decide +kernel
theorem dX7_lengthOf_8 : decode cX7_lengthOf 8 = .ok (.iload_n 2, 1) := by decide +kernel
theorem dX7_lengthOf_9 : decode cX7_lengthOf 9 = .ok (.bipush 20, 2) := by decide +kernel
theorem dX7_lengthOf_11 : decode cX7_lengthOf 11 = .ok (.if_icmp .le 13, 3) := by decide +kernel
theorem dX7_lengthOf_14 : decode cX7_lengthOf 14 = .ok (.new 90, 3) := by decide +kernel
theorem dX7_lengthOf_17 : decode cX7_lengthOf 17 = .ok (.dup, 1) := by decide +kernel
theorem dX7_lengthOf_18 : decode cX7_lengthOf 18 = .ok (.ldc 233, 2) := by decide +kernel
theorem dX7_lengthOf_20 : decode cX7_lengthOf 20 = .ok (.invokespecial 94, 3) := by decide +kernel
theorem dX7_lengthOf_23 : decode cX7_lengthOf 23 = .ok (.athrow, 1) := by decide +kernel
theorem dX7_lengthOf_24 : decode cX7_lengthOf 24 = .ok (.aload_n 0, 1) := by decide +kernel
theorem dX7_lengthOf_25 : decode cX7_lengthOf 25 = .ok (.getfield 10, 3) := by decide +kernel
theorem dX7_lengthOf_28 : decode cX7_lengthOf 28 = .ok (.iload_n 1, 1) := by decide +kernel
theorem dX7_lengthOf_29 : decode cX7_lengthOf 29 = .ok (.invokevirtual 87, 3) := by decide +kernel
theorem dX7_lengthOf_32 : decode cX7_lengthOf 32 = .ok (.astore_n 3, 1) := by decide +kernel
theorem dX7_lengthOf_33 : decode cX7_lengthOf 33 = .ok (.aload_n 3, 1) := by decide +kernel
theorem dX7_lengthOf_34 : decode cX7_lengthOf 34 = .ok (.ifnonnull 5, 3) := by decide +kernel
theorem dX7_lengthOf_37 : decode cX7_lengthOf 37 = .ok (.iconst (-1), 1) := by decide +kernel
theorem dX7_lengthOf_38 : decode cX7_lengthOf 38 = .ok (.ireturn, 1) := by decide +kernel
theorem dX7_lengthOf_39 : decode cX7_lengthOf 39 = .ok (.aload_n 0, 1) := by decide +kernel
theorem dX7_lengthOf_40 : decode cX7_lengthOf 40 = .ok (.getfield 44, 3) := by decide +kernel
theorem dX7_lengthOf_43 : decode cX7_lengthOf 43 = .ok (.aload_n 0, 1) := by decide +kernel
theorem dX7_lengthOf_44 : decode cX7_lengthOf 44 = .ok (.getfield 10, 3) := by decide +kernel
theorem dX7_lengthOf_47 : decode cX7_lengthOf 47 = .ok (.iload_n 1, 1) := by decide +kernel
theorem dX7_lengthOf_48 : decode cX7_lengthOf 48 = .ok (.aload_n 3, 1) := by decide +kernel
theorem dX7_lengthOf_49 : decode cX7_lengthOf 49 = .ok (.getfield 76, 3) := by decide +kernel
theorem dX7_lengthOf_52 : decode cX7_lengthOf 52 = .ok (.iload_n 2, 1) := by decide +kernel
theorem dX7_lengthOf_53 : decode cX7_lengthOf 53 = .ok (.invokevirtual 235, 3) := by decide +kernel
theorem dX7_lengthOf_56 : decode cX7_lengthOf 56 = .ok (.ireturn, 1) := by decide +kernel
theorem dX7_count_0 : decode cX7_count 0 = .ok (.iload_n 1, 1) := by decide +kernel
theorem dX7_count_1 : decode cX7_count 1 = .ok (.bipush 7, 2) := by decide +kernel
theorem dX7_count_3 : decode cX7_count 3 = .ok (.invokestatic 169, 3) := by decide +kernel
theorem dX7_count_6 : decode cX7_count 6 = .ok (.iload_n 1, 1) := by decide +kernel
theorem dX7_count_7 : decode cX7_count 7 = .ok (.tableswitch 97 0 6 #[41, 49, 57, 65, 73, 81, 89], 41) := by decide +kernel
theorem dX7_count_48 : decode cX7_count 48 = .ok (.aload_n 0, 1) := by decide +kernel
theorem dX7_count_49 : decode cX7_count 49 = .ok (.getfield 10, 3) := by decide +kernel
theorem dX7_count_52 : decode cX7_count 52 = .ok (.invokevirtual 83, 3) := by decide +kernel
theorem dX7_count_55 : decode cX7_count 55 = .ok (.ireturn, 1) := by decide +kernel
theorem dX7_count_56 : decode cX7_count 56 = .ok (.aload_n 0, 1) := by decide +kernel
theorem dX7_count_57 : decode cX7_count 57 = .ok (.getfield 10, 3) := by decide +kernel
theorem dX7_count_60 : decode cX7_count 60 = .ok (.invokevirtual 239, 3) := by decide +kernel
theorem dX7_count_63 : decode cX7_count 63 = .ok (.ireturn, 1) := by decide +kernel
theorem dX7_count_64 : decode cX7_count 64 = .ok (.aload_n 0, 1) := by decide +kernel
theorem dX7_count_65 : decode cX7_count 65 = .ok (.getfield 10, 3) := by decide +kernel
theorem dX7_count_68 : decode cX7_count 68 = .ok (.getfield 97, 3) := by decide +kernel
theorem dX7_count_71 : decode cX7_count 71 = .ok (.ireturn, 1) := by decide +kernel
theorem dX7_count_72 : decode cX7_count 72 = .ok (.aload_n 0, 1) := by decide +kernel
theorem dX7_count_73 : decode cX7_count 73 = .ok (.getfield 10, 3) := by decide +kernel
theorem dX7_count_76 : decode cX7_count 76 = .ok (.getfield 115, 3) := by decide +kernel
theorem dX7_count_79 : decode cX7_count 79 = .ok (.ireturn, 1) := by decide +kernel
theorem dX7_count_80 : decode cX7_count 80 = .ok (.aload_n 0, 1) := by decide +kernel
theorem dX7_count_81 : decode cX7_count 81 = .ok (.getfield 10, 3) := by decide +kernel
theorem dX7_count_84 : decode cX7_count 84 = .ok (.getfield 104, 3) := by decide +kernel
theorem dX7_count_87 : decode cX7_count 87 = .ok (.ireturn, 1) := by decide +kernel
theorem dX7_count_88 : decode cX7_count 88 = .ok (.aload_n 0, 1) := by decide +kernel
theorem dX7_count_89 : decode cX7_count 89 = .ok (.getfield 10, 3) := by decide +kernel
theorem dX7_count_92 : decode cX7_count 92 = .ok (.invokevirtual 242, 3) := by decide +kernel
theorem dX7_count_95 : decode cX7_count 95 = .ok (.ireturn, 1) := by decide +kernel
theorem dX7_count_96 : decode cX7_count 96 = .ok (.aload_n 0, 1) := by decide +kernel
theorem dX7_count_97 : decode cX7_count 97 = .ok (.getfield 19, 3) := by decide +kernel
theorem dX7_count_100 : decode cX7_count 100 = .ok (.getfield 150, 3) := by decide +kernel
theorem dX7_count_103 : decode cX7_count 103 = .ok (.ireturn, 1) := by decide +kernel
theorem dX7_count_104 : decode cX7_count 104 = .ok (.aload_n 0, 1) := by decide +kernel
theorem dX7_count_105 : decode cX7_count 105 = .ok (.getfield 48, 3) := by decide +kernel
theorem dX7_count_108 : decode cX7_count 108 = .ok (.ireturn, 1) := by decide +kernel
theorem dX7_meanHoles_0 : decode cX7_meanHoles 0 = .ok (.aload_n 0, 1) := by decide +kernel
theorem dX7_meanHoles_1 : decode cX7_meanHoles 1 = .ok (.getfield 10, 3) := by decide +kernel
theorem dX7_meanHoles_4 : decode cX7_meanHoles 4 = .ok (.invokevirtual 83, 3) := by decide +kernel
theorem dX7_meanHoles_7 : decode cX7_meanHoles 7 = .ok (.istore_n 1, 1) := by decide +kernel
theorem dX7_meanHoles_8 : decode cX7_meanHoles 8 = .ok (.iload_n 1, 1) := by decide +kernel
theorem dX7_meanHoles_9 : decode cX7_meanHoles 9 = .ok (.ifCond .ne 5, 3) := by decide +kernel
theorem dX7_meanHoles_12 : decode cX7_meanHoles 12 = .ok (.dconst 0, 1) := by decide +kernel
theorem dX7_meanHoles_13 : decode cX7_meanHoles 13 = .ok (.dreturn, 1) := by decide +kernel
theorem dX7_meanHoles_14 : decode cX7_meanHoles 14 = .ok (.aload_n 0, 1) := by decide +kernel
theorem dX7_meanHoles_15 : decode cX7_meanHoles 15 = .ok (.getfield 10, 3) := by decide +kernel
theorem dX7_meanHoles_18 : decode cX7_meanHoles 18 = .ok (.invokevirtual 245, 3) := by decide +kernel
theorem dX7_meanHoles_21 : decode cX7_meanHoles 21 = .ok (.i2d, 1) := by decide +kernel
theorem dX7_meanHoles_22 : decode cX7_meanHoles 22 = .ok (.iload_n 1, 1) := by decide +kernel
theorem dX7_meanHoles_23 : decode cX7_meanHoles 23 = .ok (.i2d, 1) := by decide +kernel
theorem dX7_meanHoles_24 : decode cX7_meanHoles 24 = .ok (.ddiv, 1) := by decide +kernel
theorem dX7_meanHoles_25 : decode cX7_meanHoles 25 = .ok (.dreturn, 1) := by decide +kernel
theorem dX7_isLetter_0 : decode cX7_isLetter 0 = .ok (.iload_n 0, 1) := by decide +kernel
theorem dX7_isLetter_1 : decode cX7_isLetter 1 = .ok (.ifCond .lt 13, 3) := by decide +kernel
theorem dX7_isLetter_4 : decode cX7_isLetter 4 = .ok (.iload_n 0, 1) := by decide +kernel
theorem dX7_isLetter_5 : decode cX7_isLetter 5 = .ok (.bipush 26, 2) := by decide +kernel
theorem dX7_isLetter_7 : decode cX7_isLetter 7 = .ok (.if_icmp .ge 7, 3) := by decide +kernel
theorem dX7_isLetter_10 : decode cX7_isLetter 10 = .ok (.iconst 1, 1) := by decide +kernel
theorem dX7_isLetter_11 : decode cX7_isLetter 11 = .ok (.goto 4, 3) := by decide +kernel
theorem dX7_isLetter_14 : decode cX7_isLetter 14 = .ok (.iconst 0, 1) := by decide +kernel
theorem dX7_isLetter_15 : decode cX7_isLetter 15 = .ok (.ireturn, 1) := by decide +kernel
theorem dX7_isAbbreviation_0 : decode cX7_isAbbreviation 0 = .ok (.iload_n 0, 1) := by decide +kernel
theorem dX7_isAbbreviation_1 : decode cX7_isAbbreviation 1 = .ok (.bipush 65, 2) := by decide +kernel
theorem dX7_isAbbreviation_3 : decode cX7_isAbbreviation 3 = .ok (.if_icmp .lt 13, 3) := by decide +kernel
theorem dX7_isAbbreviation_6 : decode cX7_isAbbreviation 6 = .ok (.iload_n 0, 1) := by decide +kernel
theorem dX7_isAbbreviation_7 : decode cX7_isAbbreviation 7 = .ok (.bipush 90, 2) := by decide +kernel
theorem dX7_isAbbreviation_9 : decode cX7_isAbbreviation 9 = .ok (.if_icmp .gt 7, 3) := by decide +kernel
theorem dX7_isAbbreviation_12 : decode cX7_isAbbreviation 12 = .ok (.iconst 1, 1) := by decide +kernel
theorem dX7_isAbbreviation_13 : decode cX7_isAbbreviation 13 = .ok (.goto 4, 3) := by decide +kernel
theorem dX7_isAbbreviation_16 : decode cX7_isAbbreviation 16 = .ok (.iconst 0, 1) := by decide +kernel
theorem dX7_isAbbreviation_17 : decode cX7_isAbbreviation 17 = .ok (.ireturn, 1) := by decide +kernel
theorem dX7_requireLetter_0 : decode cX7_requireLetter 0 = .ok (.iload_n 0, 1) := by decide +kernel
theorem dX7_requireLetter_1 : decode cX7_requireLetter 1 = .ok (.invokestatic 248, 3) := by decide +kernel
theorem dX7_requireLetter_4 : decode cX7_requireLetter 4 = .ok (.ifCond .ne 13, 3) := by decide +kernel
theorem dX7_requireLetter_7 : decode cX7_requireLetter 7 = .ok (.new 252, 3) := by decide +kernel
theorem dX7_requireLetter_10 : decode cX7_requireLetter 10 = .ok (.dup, 1) := by decide +kernel
theorem dX7_requireLetter_11 : decode cX7_requireLetter 11 = .ok (.ldc 254, 2) := by decide +kernel
theorem dX7_requireLetter_13 : decode cX7_requireLetter 13 = .ok (.invokespecial 256, 3) := by decide +kernel
theorem dX7_requireLetter_16 : decode cX7_requireLetter 16 = .ok (.athrow, 1) := by decide +kernel
theorem dX7_requireLetter_17 : decode cX7_requireLetter 17 = .ok (.return_, 1) := by decide +kernel
theorem dX7_requireWhat_0 : decode cX7_requireWhat 0 = .ok (.iload_n 0, 1) := by decide +kernel
theorem dX7_requireWhat_1 : decode cX7_requireWhat 1 = .ok (.ifCond .lt 8, 3) := by decide +kernel
theorem dX7_requireWhat_4 : decode cX7_requireWhat 4 = .ok (.iload_n 0, 1) := by decide +kernel
theorem dX7_requireWhat_5 : decode cX7_requireWhat 5 = .ok (.iload_n 1, 1) := by decide +kernel
theorem dX7_requireWhat_6 : decode cX7_requireWhat 6 = .ok (.if_icmp .le 14, 3) := by decide +kernel
theorem dX7_requireWhat_9 : decode cX7_requireWhat 9 = .ok (.new 90, 3) := by decide +kernel
theorem dX7_requireWhat_12 : decode cX7_requireWhat 12 = .ok (.dup, 1) := by decide +kernel
theorem dX7_requireWhat_13 : decode cX7_requireWhat 13 = .ok (.ldc_w 257, 3) := by decide +kernel
theorem dX7_requireWhat_16 : decode cX7_requireWhat 16 = .ok (.invokespecial 94, 3) := by decide +kernel
theorem dX7_requireWhat_19 : decode cX7_requireWhat 19 = .ok (.athrow, 1) := by decide +kernel
theorem dX7_requireWhat_20 : decode cX7_requireWhat 20 = .ok (.return_, 1) := by decide +kernel
theorem dX7_requireSlot_0 : decode cX7_requireSlot 0 = .ok (.iload_n 0, 1) := by decide +kernel
theorem dX7_requireSlot_1 : decode cX7_requireSlot 1 = .ok (.ifCond .lt 8, 3) := by decide +kernel
theorem dX7_requireSlot_4 : decode cX7_requireSlot 4 = .ok (.iload_n 0, 1) := by decide +kernel
theorem dX7_requireSlot_5 : decode cX7_requireSlot 5 = .ok (.iconst 2, 1) := by decide +kernel
theorem dX7_requireSlot_6 : decode cX7_requireSlot 6 = .ok (.if_icmp .lt 14, 3) := by decide +kernel
theorem dX7_requireSlot_9 : decode cX7_requireSlot 9 = .ok (.new 90, 3) := by decide +kernel
theorem dX7_requireSlot_12 : decode cX7_requireSlot 12 = .ok (.dup, 1) := by decide +kernel
theorem dX7_requireSlot_13 : decode cX7_requireSlot 13 = .ok (.ldc_w 259, 3) := by decide +kernel
theorem dX7_requireSlot_16 : decode cX7_requireSlot 16 = .ok (.invokespecial 94, 3) := by decide +kernel
theorem dX7_requireSlot_19 : decode cX7_requireSlot 19 = .ok (.athrow, 1) := by decide +kernel
theorem dX7_requireSlot_20 : decode cX7_requireSlot 20 = .ok (.return_, 1) := by decide +kernel
theorem dX7_requireDefinition_0 : decode cX7_requireDefinition 0 = .ok (.aload_n 0, 1) := by decide +kernel
theorem dX7_requireDefinition_1 : decode cX7_requireDefinition 1 = .ok (.getfield 10, 3) := by decide +kernel
theorem dX7_requireDefinition_4 : decode cX7_requireDefinition 4 = .ok (.iload_n 1, 1) := by decide +kernel
theorem dX7_requireDefinition_5 : decode cX7_requireDefinition 5 = .ok (.invokevirtual 87, 3) := by decide +kernel
theorem dX7_requireDefinition_8 : decode cX7_requireDefinition 8 = .ok (.astore_n 2, 1) := by decide +kernel
theorem dX7_requireDefinition_9 : decode cX7_requireDefinition 9 = .ok (.aload_n 2, 1) := by decide +kernel
theorem dX7_requireDefinition_10 : decode cX7_requireDefinition 10 = .ok (.ifnonnull 14, 3) := by decide +kernel
theorem dX7_requireDefinition_13 : decode cX7_requireDefinition 13 = .ok (.new 125, 3) := by decide +kernel
theorem dX7_requireDefinition_16 : decode cX7_requireDefinition 16 = .ok (.dup, 1) := by decide +kernel
theorem dX7_requireDefinition_17 : decode cX7_requireDefinition 17 = .ok (.ldc_w 261, 3) := by decide +kernel
theorem dX7_requireDefinition_20 : decode cX7_requireDefinition 20 = .ok (.invokespecial 129, 3) := by decide +kernel
theorem dX7_requireDefinition_23 : decode cX7_requireDefinition 23 = .ok (.athrow, 1) := by decide +kernel
theorem dX7_requireDefinition_24 : decode cX7_requireDefinition 24 = .ok (.aload_n 2, 1) := by decide +kernel
theorem dX7_requireDefinition_25 : decode cX7_requireDefinition 25 = .ok (.areturn, 1) := by decide +kernel
theorem dX7_copyOfBuffer_0 : decode cX7_copyOfBuffer 0 = .ok (.aload_n 0, 1) := by decide +kernel
theorem dX7_copyOfBuffer_1 : decode cX7_copyOfBuffer 1 = .ok (.getfield 23, 3) := by decide +kernel
theorem dX7_copyOfBuffer_4 : decode cX7_copyOfBuffer 4 = .ok (.iconst 0, 1) := by decide +kernel
theorem dX7_copyOfBuffer_5 : decode cX7_copyOfBuffer 5 = .ok (.aload_n 0, 1) := by decide +kernel
theorem dX7_copyOfBuffer_6 : decode cX7_copyOfBuffer 6 = .ok (.getfield 48, 3) := by decide +kernel
theorem dX7_copyOfBuffer_9 : decode cX7_copyOfBuffer 9 = .ok (.aload_n 0, 1) := by decide +kernel
theorem dX7_copyOfBuffer_10 : decode cX7_copyOfBuffer 10 = .ok (.getfield 23, 3) := by decide +kernel
theorem dX7_copyOfBuffer_13 : decode cX7_copyOfBuffer 13 = .ok (.arraylength, 1) := by decide +kernel
theorem dX7_copyOfBuffer_14 : decode cX7_copyOfBuffer 14 = .ok (.invokestatic 138, 3) := by decide +kernel
theorem dX7_copyOfBuffer_17 : decode cX7_copyOfBuffer 17 = .ok (.invokestatic 263, 3) := by decide +kernel
theorem dX7_copyOfBuffer_20 : decode cX7_copyOfBuffer 20 = .ok (.invokestatic 266, 3) := by decide +kernel
theorem dX7_copyOfBuffer_23 : decode cX7_copyOfBuffer 23 = .ok (.areturn, 1) := by decide +kernel
theorem dX7_requireCompleteText_0 : decode cX7_requireCompleteText 0 = .ok (.aload_n 0, 1) := by decide +kernel
theorem dX7_requireCompleteText_1 : decode cX7_requireCompleteText 1 = .ok (.getfield 30, 3) := by decide +kernel
theorem dX7_requireCompleteText_4 : decode cX7_requireCompleteText 4 = .ok (.aload_n 0, 1) := by decide +kernel
theorem dX7_requireCompleteText_5 : decode cX7_requireCompleteText 5 = .ok (.getfield 23, 3) := by decide +kernel
theorem dX7_requireCompleteText_8 : decode cX7_requireCompleteText 8 = .ok (.aload_n 0, 1) := by decide +kernel
theorem dX7_requireCompleteText_9 : decode cX7_requireCompleteText 9 = .ok (.getfield 48, 3) := by decide +kernel
theorem dX7_requireCompleteText_12 : decode cX7_requireCompleteText 12 = .ok (.invokevirtual 130, 3) := by decide +kernel
theorem dX7_requireCompleteText_15 : decode cX7_requireCompleteText 15 = .ok (.aload_n 0, 1) := by decide +kernel
theorem dX7_requireCompleteText_16 : decode cX7_requireCompleteText 16 = .ok (.getfield 30, 3) := by decide +kernel
theorem dX7_requireCompleteText_19 : decode cX7_requireCompleteText 19 = .ok (.invokevirtual 272, 3) := by decide +kernel
theorem dX7_requireCompleteText_22 : decode cX7_requireCompleteText 22 = .ok (.ifCond .ne 14, 3) := by decide +kernel
theorem dX7_requireCompleteText_25 : decode cX7_requireCompleteText 25 = .ok (.new 90, 3) := by decide +kernel
theorem dX7_requireCompleteText_28 : decode cX7_requireCompleteText 28 = .ok (.dup, 1) := by decide +kernel
theorem dX7_requireCompleteText_29 : decode cX7_requireCompleteText 29 = .ok (.ldc_w 276, 3) := by decide +kernel
theorem dX7_requireCompleteText_32 : decode cX7_requireCompleteText 32 = .ok (.invokespecial 94, 3) := by decide +kernel
theorem dX7_requireCompleteText_35 : decode cX7_requireCompleteText 35 = .ok (.athrow, 1) := by decide +kernel
theorem dX7_requireCompleteText_36 : decode cX7_requireCompleteText 36 = .ok (.return_, 1) := by decide +kernel
theorem dX8_init_0 : decode cX8_init 0 = .ok (.aload_n 0, 1) := by decide +kernel
theorem dX8_init_1 : decode cX8_init 1 = .ok (.invokespecial 1, 3) := by decide +kernel
theorem dX8_init_4 : decode cX8_init 4 = .ok (.aload_n 0, 1) := by decide +kernel
theorem dX8_init_5 : decode cX8_init 5 = .ok (.sipush 2153, 3) := by decide +kernel
theorem dX8_init_8 : decode cX8_init 8 = .ok (.newarray .int, 2) := by decide +kernel
theorem dX8_init_10 : decode cX8_init 10 = .ok (.putfield 7, 3) := by decide +kernel
theorem dX8_init_13 : decode cX8_init 13 = .ok (.aload_n 0, 1) := by decide +kernel
theorem dX8_init_14 : decode cX8_init 14 = .ok (.sipush 12918, 3) := by decide +kernel
theorem dX8_init_17 : decode cX8_init 17 = .ok (.newarray .int, 2) := by decide +kernel
theorem dX8_init_19 : decode cX8_init 19 = .ok (.putfield 13, 3) := by decide +kernel
theorem dX8_init_22 : decode cX8_init 22 = .ok (.aload_n 0, 1) := by decide +kernel
theorem dX8_init_23 : decode cX8_init 23 = .ok (.sipush 4306, 3) := by decide +kernel
theorem dX8_init_26 : decode cX8_init 26 = .ok (.newarray .int, 2) := by decide +kernel
theorem dX8_init_28 : decode cX8_init 28 = .ok (.putfield 16, 3) := by decide +kernel
theorem dX8_init_31 : decode cX8_init 31 = .ok (.aload_n 0, 1) := by decide +kernel
theorem dX8_init_32 : decode cX8_init 32 = .ok (.iconst 2, 1) := by decide +kernel
theorem dX8_init_33 : decode cX8_init 33 = .ok (.newarray .boolean, 2) := by decide +kernel
theorem dX8_init_35 : decode cX8_init 35 = .ok (.putfield 19, 3) := by decide +kernel
theorem dX8_init_38 : decode cX8_init 38 = .ok (.aload_n 0, 1) := by decide +kernel
theorem dX8_init_39 : decode cX8_init 39 = .ok (.bipush 60, 2) := by decide +kernel
theorem dX8_init_41 : decode cX8_init 41 = .ok (.newarray .int, 2) := by decide +kernel
theorem dX8_init_43 : decode cX8_init 43 = .ok (.putfield 23, 3) := by decide +kernel
theorem dX8_init_46 : decode cX8_init 46 = .ok (.aload_n 0, 1) := by decide +kernel
theorem dX8_init_47 : decode cX8_init 47 = .ok (.bipush 60, 2) := by decide +kernel
theorem dX8_init_49 : decode cX8_init 49 = .ok (.newarray .int, 2) := by decide +kernel
theorem dX8_init_51 : decode cX8_init 51 = .ok (.putfield 26, 3) := by decide +kernel
theorem dX8_init_54 : decode cX8_init 54 = .ok (.aload_n 0, 1) := by decide +kernel
theorem dX8_init_55 : decode cX8_init 55 = .ok (.bipush 14, 2) := by decide +kernel
theorem dX8_init_57 : decode cX8_init 57 = .ok (.newarray .int, 2) := by decide +kernel
theorem dX8_init_59 : decode cX8_init 59 = .ok (.putfield 29, 3) := by decide +kernel
theorem dX8_init_62 : decode cX8_init 62 = .ok (.aload_n 0, 1) := by decide +kernel
theorem dX8_init_63 : decode cX8_init 63 = .ok (.bipush 14, 2) := by decide +kernel
theorem dX8_init_65 : decode cX8_init 65 = .ok (.newarray .int, 2) := by decide +kernel
theorem dX8_init_67 : decode cX8_init 67 = .ok (.putfield 32, 3) := by decide +kernel
theorem dX8_init_70 : decode cX8_init 70 = .ok (.aload_n 0, 1) := by decide +kernel
theorem dX8_init_71 : decode cX8_init 71 = .ok (.bipush 14, 2) := by decide +kernel
theorem dX8_init_73 : decode cX8_init 73 = .ok (.newarray .int, 2) := by decide +kernel
theorem dX8_init_75 : decode cX8_init 75 = .ok (.putfield 35, 3) := by decide +kernel
theorem dX8_init_78 : decode cX8_init 78 = .ok (.aload_n 0, 1) := by decide +kernel
theorem dX8_init_79 : decode cX8_init 79 = .ok (.bipush 14, 2) := by decide +kernel
theorem dX8_init_81 : decode cX8_init 81 = .ok (.newarray .int, 2) := by decide +kernel
theorem dX8_init_83 : decode cX8_init 83 = .ok (.putfield 38, 3) := by decide +kernel
theorem dX8_init_86 : decode cX8_init 86 = .ok (.aload_n 0, 1) := by decide +kernel
theorem dX8_init_87 : decode cX8_init 87 = .ok (.bipush 14, 2) := by decide +kernel
theorem dX8_init_89 : decode cX8_init 89 = .ok (.newarray .int, 2) := by decide +kernel
theorem dX8_init_91 : decode cX8_init 91 = .ok (.putfield 41, 3) := by decide +kernel
theorem dX8_init_94 : decode cX8_init 94 = .ok (.aload_n 0, 1) := by decide +kernel
theorem dX8_init_95 : decode cX8_init 95 = .ok (.bipush 14, 2) := by decide +kernel
theorem dX8_init_97 : decode cX8_init 97 = .ok (.newarray .int, 2) := by decide +kernel
theorem dX8_init_99 : decode cX8_init 99 = .ok (.putfield 44, 3) := by decide +kernel
theorem dX8_init_102 : decode cX8_init 102 = .ok (.aload_n 0, 1) := by decide +kernel
theorem dX8_init_103 : decode cX8_init 103 = .ok (.bipush 84, 2) := by decide +kernel
theorem dX8_init_105 : decode cX8_init 105 = .ok (.newarray .int, 2) := by decide +kernel
theorem dX8_init_107 : decode cX8_init 107 = .ok (.putfield 47, 3) := by decide +kernel
theorem dX8_init_110 : decode cX8_init 110 = .ok (.aload_n 0, 1) := by decide +kernel
theorem dX8_init_111 : decode cX8_init 111 = .ok (.sipush 400, 3) := by decide +kernel
theorem dX8_init_114 : decode cX8_init 114 = .ok (.newarray .int, 2) := by decide +kernel
theorem dX8_init_116 : decode cX8_init 116 = .ok (.putfield 50, 3) := by decide +kernel
theorem dX8_init_119 : decode cX8_init 119 = .ok (.aload_n 0, 1) := by decide +kernel
theorem dX8_init_120 : decode cX8_init 120 = .ok (.sipush 400, 3) := by decide +kernel
theorem dX8_init_123 : decode cX8_init 123 = .ok (.newarray .int, 2) := by decide +kernel
theorem dX8_init_125 : decode cX8_init 125 = .ok (.putfield 53, 3) := by decide +kernel
theorem dX8_init_128 : decode cX8_init 128 = .ok (.aload_n 0, 1) := by decide +kernel
theorem dX8_init_129 : decode cX8_init 129 = .ok (.sipush 2400, 3) := by decide +kernel
theorem dX8_init_132 : decode cX8_init 132 = .ok (.newarray .int, 2) := by decide +kernel
theorem dX8_init_134 : decode cX8_init 134 = .ok (.putfield 56, 3) := by decide +kernel
theorem dX8_init_137 : decode cX8_init 137 = .ok (.aload_n 0, 1) := by decide +kernel
theorem dX8_init_138 : decode cX8_init 138 = .ok (.sipush 401, 3) := by decide +kernel
theorem dX8_init_141 : decode cX8_init 141 = .ok (.newarray .int, 2) := by decide +kernel
theorem dX8_init_143 : decode cX8_init 143 = .ok (.putfield 59, 3) := by decide +kernel
theorem dX8_init_146 : decode cX8_init 146 = .ok (.aload_n 0, 1) := by decide +kernel
theorem dX8_init_147 : decode cX8_init 147 = .ok (.sipush 360, 3) := by decide +kernel
theorem dX8_init_150 : decode cX8_init 150 = .ok (.newarray .int, 2) := by decide +kernel
theorem dX8_init_152 : decode cX8_init 152 = .ok (.putfield 62, 3) := by decide +kernel
theorem dX8_init_155 : decode cX8_init 155 = .ok (.aload_n 0, 1) := by decide +kernel
theorem dX8_init_156 : decode cX8_init 156 = .ok (.sipush 430, 3) := by decide +kernel
theorem dX8_init_159 : decode cX8_init 159 = .ok (.newarray .int, 2) := by decide +kernel
theorem dX8_init_161 : decode cX8_init 161 = .ok (.putfield 65, 3) := by decide +kernel
theorem dX8_init_164 : decode cX8_init 164 = .ok (.aload_n 0, 1) := by decide +kernel
theorem dX8_init_165 : decode cX8_init 165 = .ok (.sipush 430, 3) := by decide +kernel
theorem dX8_init_168 : decode cX8_init 168 = .ok (.newarray .int, 2) := by decide +kernel
theorem dX8_init_170 : decode cX8_init 170 = .ok (.putfield 68, 3) := by decide +kernel
theorem dX8_init_173 : decode cX8_init 173 = .ok (.aload_n 0, 1) := by decide +kernel
theorem dX8_init_174 : decode cX8_init 174 = .ok (.sipush 430, 3) := by decide +kernel
theorem dX8_init_177 : decode cX8_init 177 = .ok (.newarray .int, 2) := by decide +kernel
theorem dX8_init_179 : decode cX8_init 179 = .ok (.putfield 71, 3) := by decide +kernel
theorem dX8_init_182 : decode cX8_init 182 = .ok (.aload_n 0, 1) := by decide +kernel
theorem dX8_init_183 : decode cX8_init 183 = .ok (.bipush 62, 2) := by decide +kernel
theorem dX8_init_185 : decode cX8_init 185 = .ok (.newarray .int, 2) := by decide +kernel
theorem dX8_init_187 : decode cX8_init 187 = .ok (.putfield 74, 3) := by decide +kernel
theorem dX8_init_190 : decode cX8_init 190 = .ok (.aload_n 0, 1) := by decide +kernel
theorem dX8_init_191 : decode cX8_init 191 = .ok (.bipush 62, 2) := by decide +kernel
theorem dX8_init_193 : decode cX8_init 193 = .ok (.newarray .int, 2) := by decide +kernel
theorem dX8_init_195 : decode cX8_init 195 = .ok (.putfield 77, 3) := by decide +kernel
theorem dX8_init_198 : decode cX8_init 198 = .ok (.aload_n 0, 1) := by decide +kernel
theorem dX8_init_199 : decode cX8_init 199 = .ok (.bipush 62, 2) := by decide +kernel
theorem dX8_init_201 : decode cX8_init 201 = .ok (.newarray .int, 2) := by decide +kernel
theorem dX8_init_203 : decode cX8_init 203 = .ok (.putfield 80, 3) := by decide +kernel
theorem dX8_init_206 : decode cX8_init 206 = .ok (.aload_n 0, 1) := by decide +kernel
theorem dX8_init_207 : decode cX8_init 207 = .ok (.bipush 62, 2) := by decide +kernel
theorem dX8_init_209 : decode cX8_init 209 = .ok (.newarray .int, 2) := by decide +kernel
theorem dX8_init_211 : decode cX8_init 211 = .ok (.putfield 83, 3) := by decide +kernel
theorem dX8_init_214 : decode cX8_init 214 = .ok (.aload_n 0, 1) := by decide +kernel
theorem dX8_init_215 : decode cX8_init 215 = .ok (.sipush 372, 3) := by decide +kernel
theorem dX8_init_218 : decode cX8_init 218 = .ok (.newarray .int, 2) := by decide +kernel
theorem dX8_init_220 : decode cX8_init 220 = .ok (.putfield 86, 3) := by decide +kernel
theorem dX8_init_223 : decode cX8_init 223 = .ok (.aload_n 0, 1) := by decide +kernel
theorem dX8_init_224 : decode cX8_init 224 = .ok (.bipush 26, 2) := by decide +kernel
theorem dX8_init_226 : decode cX8_init 226 = .ok (.newarray .int, 2) := by decide +kernel
theorem dX8_init_228 : decode cX8_init 228 = .ok (.putfield 89, 3) := by decide +kernel
theorem dX8_init_231 : decode cX8_init 231 = .ok (.aload_n 0, 1) := by decide +kernel
theorem dX8_init_232 : decode cX8_init 232 = .ok (.bipush 26, 2) := by decide +kernel
theorem dX8_init_234 : decode cX8_init 234 = .ok (.newarray .int, 2) := by decide +kernel
theorem dX8_init_236 : decode cX8_init 236 = .ok (.putfield 92, 3) := by decide +kernel
theorem dX8_init_239 : decode cX8_init 239 = .ok (.aload_n 0, 1) := by decide +kernel
theorem dX8_init_240 : decode cX8_init 240 = .ok (.bipush 60, 2) := by decide +kernel
theorem dX8_init_242 : decode cX8_init 242 = .ok (.newarray .int, 2) := by decide +kernel
theorem dX8_init_244 : decode cX8_init 244 = .ok (.putfield 95, 3) := by decide +kernel
theorem dX8_init_247 : decode cX8_init 247 = .ok (.iconst 0, 1) := by decide +kernel
theorem dX8_init_248 : decode cX8_init 248 = .ok (.istore_n 1, 1) := by decide +kernel
theorem dX8_init_249 : decode cX8_init 249 = .ok (.iload_n 1, 1) := by decide +kernel
theorem dX8_init_250 : decode cX8_init 250 = .ok (.bipush 26, 2) := by decide +kernel
theorem dX8_init_252 : decode cX8_init 252 = .ok (.if_icmp .ge 16, 3) := by decide +kernel
theorem dX8_init_255 : decode cX8_init 255 = .ok (.aload_n 0, 1) := by decide +kernel
theorem dX8_init_256 : decode cX8_init 256 = .ok (.getfield 7, 3) := by decide +kernel
theorem dX8_init_259 : decode cX8_init 259 = .ok (.iload_n 1, 1) := by decide +kernel
theorem dX8_init_260 : decode cX8_init 260 = .ok (.iconst (-1), 1) := by decide +kernel
theorem dX8_init_261 : decode cX8_init 261 = .ok (.iastore, 1) := by decide +kernel
theorem dX8_init_262 : decode cX8_init 262 = .ok (.iinc 1 1, 3) := by decide +kernel
theorem dX8_init_265 : decode cX8_init 265 = .ok (.goto (-16), 3) := by decide +kernel
theorem dX8_init_268 : decode cX8_init 268 = .ok (.aload_n 0, 1) := by decide +kernel
theorem dX8_init_269 : decode cX8_init 269 = .ok (.getfield 7, 3) := by decide +kernel
theorem dX8_init_272 : decode cX8_init 272 = .ok (.sipush 1586, 3) := by decide +kernel
theorem dX8_init_275 : decode cX8_init 275 = .ok (.bipush 8, 2) := by decide +kernel
theorem dX8_init_277 : decode cX8_init 277 = .ok (.iastore, 1) := by decide +kernel
theorem dX8_init_278 : decode cX8_init 278 = .ok (.return_, 1) := by decide +kernel
theorem dX8_thrown_0 : decode cX8_thrown 0 = .ok (.aload_n 0, 1) := by decide +kernel
theorem dX8_thrown_1 : decode cX8_thrown 1 = .ok (.getfield 98, 3) := by decide +kernel
theorem dX8_thrown_4 : decode cX8_thrown 4 = .ok (.ireturn, 1) := by decide +kernel
theorem dX8_refused_0 : decode cX8_refused 0 = .ok (.aload_n 0, 1) := by decide +kernel
theorem dX8_refused_1 : decode cX8_refused 1 = .ok (.iload_n 1, 1) := by decide +kernel
theorem dX8_refused_2 : decode cX8_refused 2 = .ok (.putfield 98, 3) := by decide +kernel
theorem dX8_refused_5 : decode cX8_refused 5 = .ok (.iload_n 1, 1) := by decide +kernel
theorem dX8_refused_6 : decode cX8_refused 6 = .ok (.ifCond .le 7, 3) := by decide +kernel
theorem dX8_refused_9 : decode cX8_refused 9 = .ok (.iconst 1, 1) := by decide +kernel
theorem dX8_refused_10 : decode cX8_refused 10 = .ok (.goto 4, 3) := by decide +kernel
theorem dX8_refused_13 : decode cX8_refused 13 = .ok (.iconst 0, 1) := by decide +kernel
theorem dX8_refused_14 : decode cX8_refused 14 = .ok (.ireturn, 1) := by decide +kernel
theorem dX8_in_0 : decode cX8_in 0 = .ok (.iload_n 0, 1) := by decide +kernel
theorem dX8_in_1 : decode cX8_in 1 = .ok (.iload_n 1, 1) := by decide +kernel
theorem dX8_in_2 : decode cX8_in 2 = .ok (.if_icmp .lt 12, 3) := by decide +kernel
theorem dX8_in_5 : decode cX8_in 5 = .ok (.iload_n 0, 1) := by decide +kernel
theorem dX8_in_6 : decode cX8_in 6 = .ok (.iload_n 2, 1) := by decide +kernel
theorem dX8_in_7 : decode cX8_in 7 = .ok (.if_icmp .gt 7, 3) := by decide +kernel
theorem dX8_in_10 : decode cX8_in 10 = .ok (.iconst 1, 1) := by decide +kernel
theorem dX8_in_11 : decode cX8_in 11 = .ok (.goto 4, 3) := by decide +kernel
theorem dX8_in_14 : decode cX8_in 14 = .ok (.iconst 0, 1) := by decide +kernel
theorem dX8_in_15 : decode cX8_in 15 = .ok (.ireturn, 1) := by decide +kernel
theorem dX8_isLetter_0 : decode cX8_isLetter 0 = .ok (.iload_n 0, 1) := by decide +kernel
theorem dX8_isLetter_1 : decode cX8_isLetter 1 = .ok (.iconst 0, 1) := by decide +kernel
theorem dX8_isLetter_2 : decode cX8_isLetter 2 = .ok (.bipush 25, 2) := by decide +kernel
theorem dX8_isLetter_4 : decode cX8_isLetter 4 = .ok (.invokestatic 102, 3) := by decide +kernel
theorem dX8_isLetter_7 : decode cX8_isLetter 7 = .ok (.ireturn, 1) := by decide +kernel
theorem dX8_isDefined_0 : decode cX8_isDefined 0 = .ok (.aload_n 0, 1) := by decide +kernel
theorem dX8_isDefined_1 : decode cX8_isDefined 1 = .ok (.getfield 7, 3) := by decide +kernel
theorem dX8_isDefined_4 : decode cX8_isDefined 4 = .ok (.iload_n 1, 1) := by decide +kernel
theorem dX8_isDefined_5 : decode cX8_isDefined 5 = .ok (.iaload, 1) := by decide +kernel
theorem dX8_isDefined_6 : decode cX8_isDefined 6 = .ok (.ifCond .lt 7, 3) := by decide +kernel
theorem dX8_isDefined_9 : decode cX8_isDefined 9 = .ok (.iconst 1, 1) := by decide +kernel
theorem dX8_isDefined_10 : decode cX8_isDefined 10 = .ok (.goto 4, 3) := by decide +kernel
theorem dX8_isDefined_13 : decode cX8_isDefined 13 = .ok (.iconst 0, 1) := by decide +kernel
theorem dX8_isDefined_14 : decode cX8_isDefined 14 = .ok (.ireturn, 1) := by decide +kernel
theorem dX8_longOf_0 : decode cX8_longOf 0 = .ok (.iload_n 1, 1) := by decide +kernel
theorem dX8_longOf_1 : decode cX8_longOf 1 = .ok (.bipush 27, 2) := by decide +kernel
theorem dX8_longOf_3 : decode cX8_longOf 3 = .ok (.if_icmp .ne 7, 3) := by decide +kernel
theorem dX8_longOf_6 : decode cX8_longOf 6 = .ok (.iconst 0, 1) := by decide +kernel
theorem dX8_longOf_7 : decode cX8_longOf 7 = .ok (.goto 22, 3) := by decide +kernel
theorem dX8_longOf_10 : decode cX8_longOf 10 = .ok (.iload_n 1, 1) := by decide +kernel
theorem dX8_longOf_11 : decode cX8_longOf 11 = .ok (.bipush 26, 2) := by decide +kernel
theorem dX8_longOf_13 : decode cX8_longOf 13 = .ok (.if_icmp .ne 10, 3) := by decide +kernel
theorem dX8_longOf_16 : decode cX8_longOf 16 = .ok (.aload_n 0, 1) := by decide +kernel
theorem dX8_longOf_17 : decode cX8_longOf 17 = .ok (.getfield 106, 3) := by decide +kernel
theorem dX8_longOf_20 : decode cX8_longOf 20 = .ok (.goto 9, 3) := by decide +kernel
theorem dX8_longOf_23 : decode cX8_longOf 23 = .ok (.aload_n 0, 1) := by decide +kernel
theorem dX8_longOf_24 : decode cX8_longOf 24 = .ok (.getfield 7, 3) := by decide +kernel
theorem dX8_longOf_27 : decode cX8_longOf 27 = .ok (.iload_n 1, 1) := by decide +kernel
theorem dX8_longOf_28 : decode cX8_longOf 28 = .ok (.iaload, 1) := by decide +kernel
theorem dX8_longOf_29 : decode cX8_longOf 29 = .ok (.ireturn, 1) := by decide +kernel
theorem dX8_signOf_0 : decode cX8_signOf 0 = .ok (.iload_n 1, 1) := by decide +kernel
theorem dX8_signOf_1 : decode cX8_signOf 1 = .ok (.bipush 26, 2) := by decide +kernel
theorem dX8_signOf_3 : decode cX8_signOf 3 = .ok (.if_icmp .ne 12, 3) := by decide +kernel
theorem dX8_signOf_6 : decode cX8_signOf 6 = .ok (.aload_n 0, 1) := by decide +kernel
theorem dX8_signOf_7 : decode cX8_signOf 7 = .ok (.getfield 23, 3) := by decide +kernel
theorem dX8_signOf_10 : decode cX8_signOf 10 = .ok (.iload_n 2, 1) := by decide +kernel
theorem dX8_signOf_11 : decode cX8_signOf 11 = .ok (.iaload, 1) := by decide +kernel
theorem dX8_signOf_12 : decode cX8_signOf 12 = .ok (.goto 17, 3) := by decide +kernel
theorem dX8_signOf_15 : decode cX8_signOf 15 = .ok (.aload_n 0, 1) := by decide +kernel
theorem dX8_signOf_16 : decode cX8_signOf 16 = .ok (.getfield 7, 3) := by decide +kernel
theorem dX8_signOf_19 : decode cX8_signOf 19 = .ok (.bipush 26, 2) := by decide +kernel
theorem dX8_signOf_21 : decode cX8_signOf 21 = .ok (.bipush 60, 2) := by decide +kernel
theorem dX8_signOf_23 : decode cX8_signOf 23 = .ok (.iload_n 1, 1) := by decide +kernel
theorem dX8_signOf_24 : decode cX8_signOf 24 = .ok (.imul, 1) := by decide +kernel
theorem dX8_signOf_25 : decode cX8_signOf 25 = .ok (.iadd, 1) := by decide +kernel
theorem dX8_signOf_26 : decode cX8_signOf 26 = .ok (.iload_n 2, 1) := by decide +kernel
theorem dX8_signOf_27 : decode cX8_signOf 27 = .ok (.iadd, 1) := by decide +kernel
theorem dX8_signOf_28 : decode cX8_signOf 28 = .ok (.iaload, 1) := by decide +kernel
theorem dX8_signOf_29 : decode cX8_signOf 29 = .ok (.ireturn, 1) := by decide +kernel
theorem dX8_isCall_0 : decode cX8_isCall 0 = .ok (.iload_n 0, 1) := by decide +kernel
theorem dX8_isCall_1 : decode cX8_isCall 1 = .ok (.bipush 65, 2) := by decide +kernel
theorem dX8_isCall_3 : decode cX8_isCall 3 = .ok (.bipush 90, 2) := by decide +kernel
theorem dX8_isCall_5 : decode cX8_isCall 5 = .ok (.invokestatic 102, 3) := by decide +kernel
theorem dX8_isCall_8 : decode cX8_isCall 8 = .ok (.ireturn, 1) := by decide +kernel
theorem dX8_isPlain_0 : decode cX8_isPlain 0 = .ok (.iload_n 0, 1) := by decide +kernel
theorem dX8_isPlain_1 : decode cX8_isPlain 1 = .ok (.bipush 97, 2) := by decide +kernel
theorem dX8_isPlain_3 : decode cX8_isPlain 3 = .ok (.bipush 122, 2) := by decide +kernel
theorem dX8_isPlain_5 : decode cX8_isPlain 5 = .ok (.invokestatic 102, 3) := by decide +kernel
theorem dX8_isPlain_8 : decode cX8_isPlain 8 = .ok (.ifCond .ne 9, 3) := by decide +kernel
theorem dX8_isPlain_11 : decode cX8_isPlain 11 = .ok (.iload_n 0, 1) := by decide +kernel
theorem dX8_isPlain_12 : decode cX8_isPlain 12 = .ok (.bipush 95, 2) := by decide +kernel
theorem dX8_isPlain_14 : decode cX8_isPlain 14 = .ok (.if_icmp .ne 7, 3) := by decide +kernel
theorem dX8_isPlain_17 : decode cX8_isPlain 17 = .ok (.iconst 1, 1) := by decide +kernel
theorem dX8_isPlain_18 : decode cX8_isPlain 18 = .ok (.goto 4, 3) := by decide +kernel
theorem dX8_isPlain_21 : decode cX8_isPlain 21 = .ok (.iconst 0, 1) := by decide +kernel
theorem dX8_isPlain_22 : decode cX8_isPlain 22 = .ok (.ireturn, 1) := by decide +kernel
theorem dX8_saves_0 : decode cX8_saves 0 = .ok (.aload_n 0, 1) := by decide +kernel
theorem dX8_saves_1 : decode cX8_saves 1 = .ok (.getfield 109, 3) := by decide +kernel
theorem dX8_saves_4 : decode cX8_saves 4 = .ok (.bipush 6, 2) := by decide +kernel
theorem dX8_saves_6 : decode cX8_saves 6 = .ok (.if_icmp .ne 44, 3) := by decide +kernel
theorem dX8_saves_9 : decode cX8_saves 9 = .ok (.iconst 0, 1) := by decide +kernel
theorem dX8_saves_10 : decode cX8_saves 10 = .ok (.istore_n 1, 1) := by decide +kernel
theorem dX8_saves_11 : decode cX8_saves 11 = .ok (.iload_n 1, 1) := by decide +kernel
theorem dX8_saves_12 : decode cX8_saves 12 = .ok (.sipush 10765, 3) := by decide +kernel
theorem dX8_saves_15 : decode cX8_saves 15 = .ok (.if_icmp .ge 25, 3) := by decide +kernel
theorem dX8_saves_18 : decode cX8_saves 18 = .ok (.aload_n 0, 1) := by decide +kernel
theorem dX8_saves_19 : decode cX8_saves 19 = .ok (.getfield 13, 3) := by decide +kernel
theorem dX8_saves_22 : decode cX8_saves 22 = .ok (.iload_n 1, 1) := by decide +kernel
theorem dX8_saves_23 : decode cX8_saves 23 = .ok (.aload_n 0, 1) := by decide +kernel
theorem dX8_saves_24 : decode cX8_saves 24 = .ok (.getfield 13, 3) := by decide +kernel
theorem dX8_saves_27 : decode cX8_saves 27 = .ok (.sipush 2153, 3) := by decide +kernel
theorem dX8_saves_30 : decode cX8_saves 30 = .ok (.iload_n 1, 1) := by decide +kernel
theorem dX8_saves_31 : decode cX8_saves 31 = .ok (.iadd, 1) := by decide +kernel
theorem dX8_saves_32 : decode cX8_saves 32 = .ok (.iaload, 1) := by decide +kernel
theorem dX8_saves_33 : decode cX8_saves 33 = .ok (.iastore, 1) := by decide +kernel
theorem dX8_saves_34 : decode cX8_saves 34 = .ok (.iinc 1 1, 3) := by decide +kernel
theorem dX8_saves_37 : decode cX8_saves 37 = .ok (.goto (-26), 3) := by decide +kernel
theorem dX8_saves_40 : decode cX8_saves 40 = .ok (.aload_n 0, 1) := by decide +kernel
theorem dX8_saves_41 : decode cX8_saves 41 = .ok (.dup, 1) := by decide +kernel
theorem dX8_saves_42 : decode cX8_saves 42 = .ok (.getfield 109, 3) := by decide +kernel
theorem dX8_saves_45 : decode cX8_saves 45 = .ok (.iconst 1, 1) := by decide +kernel
theorem dX8_saves_46 : decode cX8_saves 46 = .ok (.isub, 1) := by decide +kernel
theorem dX8_saves_47 : decode cX8_saves 47 = .ok (.putfield 109, 3) := by decide +kernel
theorem dX8_saves_50 : decode cX8_saves 50 = .ok (.iconst 0, 1) := by decide +kernel
theorem dX8_saves_51 : decode cX8_saves 51 = .ok (.istore_n 1, 1) := by decide +kernel
theorem dX8_saves_52 : decode cX8_saves 52 = .ok (.iload_n 1, 1) := by decide +kernel
theorem dX8_saves_53 : decode cX8_saves 53 = .ok (.sipush 2153, 3) := by decide +kernel
theorem dX8_saves_56 : decode cX8_saves 56 = .ok (.if_icmp .ge 30, 3) := by decide +kernel
theorem dX8_saves_59 : decode cX8_saves 59 = .ok (.aload_n 0, 1) := by decide +kernel
theorem dX8_saves_60 : decode cX8_saves 60 = .ok (.getfield 13, 3) := by decide +kernel
theorem dX8_saves_63 : decode cX8_saves 63 = .ok (.sipush 2153, 3) := by decide +kernel
theorem dX8_saves_66 : decode cX8_saves 66 = .ok (.aload_n 0, 1) := by decide +kernel
theorem dX8_saves_67 : decode cX8_saves 67 = .ok (.getfield 109, 3) := by decide +kernel
theorem dX8_saves_70 : decode cX8_saves 70 = .ok (.imul, 1) := by decide +kernel
theorem dX8_saves_71 : decode cX8_saves 71 = .ok (.iload_n 1, 1) := by decide +kernel
theorem dX8_saves_72 : decode cX8_saves 72 = .ok (.iadd, 1) := by decide +kernel
theorem dX8_saves_73 : decode cX8_saves 73 = .ok (.aload_n 0, 1) := by decide +kernel
theorem dX8_saves_74 : decode cX8_saves 74 = .ok (.getfield 7, 3) := by decide +kernel
theorem dX8_saves_77 : decode cX8_saves 77 = .ok (.iload_n 1, 1) := by decide +kernel
theorem dX8_saves_78 : decode cX8_saves 78 = .ok (.iaload, 1) := by decide +kernel
theorem dX8_saves_79 : decode cX8_saves 79 = .ok (.iastore, 1) := by decide +kernel
theorem dX8_saves_80 : decode cX8_saves 80 = .ok (.iinc 1 1, 3) := by decide +kernel
theorem dX8_saves_83 : decode cX8_saves 83 = .ok (.goto (-31), 3) := by decide +kernel
theorem dX8_saves_86 : decode cX8_saves 86 = .ok (.aload_n 0, 1) := by decide +kernel
theorem dX8_saves_87 : decode cX8_saves 87 = .ok (.dup, 1) := by decide +kernel
theorem dX8_saves_88 : decode cX8_saves 88 = .ok (.getfield 109, 3) := by decide +kernel
theorem dX8_saves_91 : decode cX8_saves 91 = .ok (.iconst 1, 1) := by decide +kernel
theorem dX8_saves_92 : decode cX8_saves 92 = .ok (.iadd, 1) := by decide +kernel
theorem dX8_saves_93 : decode cX8_saves 93 = .ok (.putfield 109, 3) := by decide +kernel
theorem dX8_saves_96 : decode cX8_saves 96 = .ok (.return_, 1) := by decide +kernel
theorem dX8_defined_0 : decode cX8_defined 0 = .ok (.iconst 0, 1) := by decide +kernel
theorem dX8_defined_1 : decode cX8_defined 1 = .ok (.istore_n 1, 1) := by decide +kernel
theorem dX8_defined_2 : decode cX8_defined 2 = .ok (.iconst 0, 1) := by decide +kernel
theorem dX8_defined_3 : decode cX8_defined 3 = .ok (.istore_n 2, 1) := by decide +kernel
theorem dX8_defined_4 : decode cX8_defined 4 = .ok (.iload_n 2, 1) := by decide +kernel
theorem dX8_defined_5 : decode cX8_defined 5 = .ok (.bipush 26, 2) := by decide +kernel
theorem dX8_defined_7 : decode cX8_defined 7 = .ok (.if_icmp .ge 25, 3) := by decide +kernel
theorem dX8_defined_10 : decode cX8_defined 10 = .ok (.iload_n 1, 1) := by decide +kernel
theorem dX8_defined_11 : decode cX8_defined 11 = .ok (.aload_n 0, 1) := by decide +kernel
theorem dX8_defined_12 : decode cX8_defined 12 = .ok (.iload_n 2, 1) := by decide +kernel
theorem dX8_defined_13 : decode cX8_defined 13 = .ok (.invokevirtual 112, 3) := by decide +kernel
theorem dX8_defined_16 : decode cX8_defined 16 = .ok (.ifCond .eq 7, 3) := by decide +kernel
theorem dX8_defined_19 : decode cX8_defined 19 = .ok (.iconst 1, 1) := by decide +kernel
theorem dX8_defined_20 : decode cX8_defined 20 = .ok (.goto 4, 3) := by decide +kernel
theorem dX8_defined_23 : decode cX8_defined 23 = .ok (.iconst 0, 1) := by decide +kernel
theorem dX8_defined_24 : decode cX8_defined 24 = .ok (.iadd, 1) := by decide +kernel
theorem dX8_defined_25 : decode cX8_defined 25 = .ok (.istore_n 1, 1) := by decide +kernel
theorem dX8_defined_26 : decode cX8_defined 26 = .ok (.iinc 2 1, 3) := by decide +kernel
theorem dX8_defined_29 : decode cX8_defined 29 = .ok (.goto (-25), 3) := by decide +kernel
theorem dX8_defined_32 : decode cX8_defined 32 = .ok (.iload_n 1, 1) := by decide +kernel
theorem dX8_defined_33 : decode cX8_defined 33 = .ok (.ireturn, 1) := by decide +kernel
theorem dX8_append_0 : decode cX8_append 0 = .ok (.aload_n 0, 1) := by decide +kernel
theorem dX8_append_1 : decode cX8_append 1 = .ok (.iload_n 1, 1) := by decide +kernel
theorem dX8_append_2 : decode cX8_append 2 = .ok (.bipush 33, 2) := by decide +kernel
theorem dX8_append_4 : decode cX8_append 4 = .ok (.bipush 126, 2) := by decide +kernel
theorem dX8_append_6 : decode cX8_append 6 = .ok (.invokestatic 102, 3) := by decide +kernel
theorem dX8_append_9 : decode cX8_append 9 = .ok (.ifCond .ne 7, 3) := by decide +kernel
theorem dX8_append_12 : decode cX8_append 12 = .ok (.iconst 1, 1) := by decide +kernel
theorem dX8_append_13 : decode cX8_append 13 = .ok (.goto 17, 3) := by decide +kernel
theorem dX8_append_16 : decode cX8_append 16 = .ok (.aload_n 0, 1) := by decide +kernel
theorem dX8_append_17 : decode cX8_append 17 = .ok (.getfield 106, 3) := by decide +kernel
theorem dX8_append_20 : decode cX8_append 20 = .ok (.bipush 60, 2) := by decide +kernel
theorem dX8_append_22 : decode cX8_append 22 = .ok (.if_icmp .ne 7, 3) := by decide +kernel
theorem dX8_append_25 : decode cX8_append 25 = .ok (.iconst 2, 1) := by decide +kernel
theorem dX8_append_26 : decode cX8_append 26 = .ok (.goto 4, 3) := by decide +kernel
theorem dX8_append_29 : decode cX8_append 29 = .ok (.iconst 0, 1) := by decide +kernel
theorem dX8_append_30 : decode cX8_append 30 = .ok (.invokevirtual 116, 3) := by decide +kernel
theorem dX8_append_33 : decode cX8_append 33 = .ok (.ifCond .eq 5, 3) := by decide +kernel
theorem dX8_append_36 : decode cX8_append 36 = .ok (.iconst 0, 1) := by decide +kernel
theorem dX8_append_37 : decode cX8_append 37 = .ok (.ireturn, 1) := by decide +kernel
theorem dX8_append_38 : decode cX8_append 38 = .ok (.aload_n 0, 1) := by decide +kernel
theorem dX8_append_39 : decode cX8_append 39 = .ok (.getfield 23, 3) := by decide +kernel
theorem dX8_append_42 : decode cX8_append 42 = .ok (.aload_n 0, 1) := by decide +kernel
theorem dX8_append_43 : decode cX8_append 43 = .ok (.getfield 106, 3) := by decide +kernel
theorem dX8_append_46 : decode cX8_append 46 = .ok (.iload_n 1, 1) := by decide +kernel
theorem dX8_append_47 : decode cX8_append 47 = .ok (.iastore, 1) := by decide +kernel
theorem dX8_append_48 : decode cX8_append 48 = .ok (.aload_n 0, 1) := by decide +kernel
theorem dX8_append_49 : decode cX8_append 49 = .ok (.dup, 1) := by decide +kernel
theorem dX8_append_50 : decode cX8_append 50 = .ok (.getfield 106, 3) := by decide +kernel
theorem dX8_append_53 : decode cX8_append 53 = .ok (.iconst 1, 1) := by decide +kernel
theorem dX8_append_54 : decode cX8_append 54 = .ok (.iadd, 1) := by decide +kernel
theorem dX8_append_55 : decode cX8_append 55 = .ok (.putfield 106, 3) := by decide +kernel
theorem dX8_append_58 : decode cX8_append 58 = .ok (.aload_n 0, 1) := by decide +kernel
theorem dX8_append_59 : decode cX8_append 59 = .ok (.getfield 106, 3) := by decide +kernel
theorem dX8_append_62 : decode cX8_append 62 = .ok (.ireturn, 1) := by decide +kernel
theorem dX8_clearBuffer_0 : decode cX8_clearBuffer 0 = .ok (.aload_n 0, 1) := by decide +kernel
theorem dX8_clearBuffer_1 : decode cX8_clearBuffer 1 = .ok (.iconst 0, 1) := by decide +kernel
theorem dX8_clearBuffer_2 : decode cX8_clearBuffer 2 = .ok (.putfield 98, 3) := by decide +kernel
theorem dX8_clearBuffer_5 : decode cX8_clearBuffer 5 = .ok (.aload_n 0, 1) := by decide +kernel
theorem dX8_clearBuffer_6 : decode cX8_clearBuffer 6 = .ok (.getfield 106, 3) := by decide +kernel
theorem dX8_clearBuffer_9 : decode cX8_clearBuffer 9 = .ok (.istore_n 1, 1) := by decide +kernel
theorem dX8_clearBuffer_10 : decode cX8_clearBuffer 10 = .ok (.aload_n 0, 1) := by decide +kernel
theorem dX8_clearBuffer_11 : decode cX8_clearBuffer 11 = .ok (.iconst 0, 1) := by decide +kernel
theorem dX8_clearBuffer_12 : decode cX8_clearBuffer 12 = .ok (.putfield 106, 3) := by decide +kernel
theorem dX8_clearBuffer_15 : decode cX8_clearBuffer 15 = .ok (.iload_n 1, 1) := by decide +kernel
theorem dX8_clearBuffer_16 : decode cX8_clearBuffer 16 = .ok (.ireturn, 1) := by decide +kernel
theorem dX8_error_0 : decode cX8_error 0 = .ok (.aload_n 0, 1) := by decide +kernel
theorem dX8_error_1 : decode cX8_error 1 = .ok (.iconst 0, 1) := by decide +kernel
theorem dX8_error_2 : decode cX8_error 2 = .ok (.putfield 119, 3) := by decide +kernel
theorem dX8_error_5 : decode cX8_error 5 = .ok (.iconst 0, 1) := by decide +kernel
theorem dX8_error_6 : decode cX8_error 6 = .ok (.istore_n 1, 1) := by decide +kernel
theorem dX8_error_7 : decode cX8_error 7 = .ok (.iconst 0, 1) := by decide +kernel
theorem dX8_error_8 : decode cX8_error 8 = .ok (.istore_n 2, 1) := by decide +kernel
theorem dX8_error_9 : decode cX8_error 9 = .ok (.iload_n 2, 1) := by decide +kernel
theorem dX8_error_10 : decode cX8_error 10 = .ok (.aload_n 0, 1) := by decide +kernel
theorem dX8_error_11 : decode cX8_error 11 = .ok (.getfield 106, 3) := by decide +kernel
theorem dX8_error_14 : decode cX8_error 14 = .ok (.if_icmp .ge 170, 3) := by decide +kernel
theorem dX8_error_17 : decode cX8_error 17 = .ok (.aload_n 0, 1) := by decide +kernel
theorem dX8_error_18 : decode cX8_error 18 = .ok (.getfield 23, 3) := by decide +kernel
theorem dX8_error_21 : decode cX8_error 21 = .ok (.iload_n 2, 1) := by decide +kernel
theorem dX8_error_22 : decode cX8_error 22 = .ok (.iaload, 1) := by decide +kernel
theorem dX8_error_23 : decode cX8_error 23 = .ok (.istore_n 3, 1) := by decide +kernel
theorem dX8_error_24 : decode cX8_error 24 = .ok (.iload_n 3, 1) := by decide +kernel
theorem dX8_error_25 : decode cX8_error 25 = .ok (.invokestatic 122, 3) := by decide +kernel
theorem dX8_error_28 : decode cX8_error 28 = .ok (.ifCond .ne 68, 3) := by decide +kernel
theorem dX8_error_31 : decode cX8_error 31 = .ok (.iload_n 3, 1) := by decide +kernel
theorem dX8_error_32 : decode cX8_error 32 = .ok (.bipush 63, 2) := by decide +kernel
theorem dX8_error_34 : decode cX8_error 34 = .ok (.if_icmp .eq 62, 3) := by decide +kernel
theorem dX8_error_37 : decode cX8_error 37 = .ok (.iload_n 3, 1) := by decide +kernel
theorem dX8_error_38 : decode cX8_error 38 = .ok (.invokestatic 125, 3) := by decide +kernel
theorem dX8_error_41 : decode cX8_error 41 = .ok (.ifCond .ne 55, 3) := by decide +kernel
theorem dX8_error_44 : decode cX8_error 44 = .ok (.iload_n 3, 1) := by decide +kernel
theorem dX8_error_45 : decode cX8_error 45 = .ok (.bipush 40, 2) := by decide +kernel
theorem dX8_error_47 : decode cX8_error 47 = .ok (.if_icmp .ne 7, 3) := by decide +kernel
theorem dX8_error_50 : decode cX8_error 50 = .ok (.iload_n 1, 1) := by decide +kernel
theorem dX8_error_51 : decode cX8_error 51 = .ok (.ifCond .ne 45, 3) := by decide +kernel
theorem dX8_error_54 : decode cX8_error 54 = .ok (.iload_n 3, 1) := by decide +kernel
theorem dX8_error_55 : decode cX8_error 55 = .ok (.bipush 41, 2) := by decide +kernel
theorem dX8_error_57 : decode cX8_error 57 = .ok (.if_icmp .ne 10, 3) := by decide +kernel
theorem dX8_error_60 : decode cX8_error 60 = .ok (.aload_n 0, 1) := by decide +kernel
theorem dX8_error_61 : decode cX8_error 61 = .ok (.getfield 119, 3) := by decide +kernel
theorem dX8_error_64 : decode cX8_error 64 = .ok (.ifCond .gt 32, 3) := by decide +kernel
theorem dX8_error_67 : decode cX8_error 67 = .ok (.iload_n 3, 1) := by decide +kernel
theorem dX8_error_68 : decode cX8_error 68 = .ok (.bipush 44, 2) := by decide +kernel
theorem dX8_error_70 : decode cX8_error 70 = .ok (.if_icmp .ne 30, 3) := by decide +kernel
theorem dX8_error_73 : decode cX8_error 73 = .ok (.aload_n 0, 1) := by decide +kernel
theorem dX8_error_74 : decode cX8_error 74 = .ok (.getfield 119, 3) := by decide +kernel
theorem dX8_error_77 : decode cX8_error 77 = .ok (.ifCond .le 23, 3) := by decide +kernel
theorem dX8_error_80 : decode cX8_error 80 = .ok (.aload_n 0, 1) := by decide +kernel
theorem dX8_error_81 : decode cX8_error 81 = .ok (.getfield 26, 3) := by decide +kernel
theorem dX8_error_84 : decode cX8_error 84 = .ok (.aload_n 0, 1) := by decide +kernel
theorem dX8_error_85 : decode cX8_error 85 = .ok (.getfield 119, 3) := by decide +kernel
theorem dX8_error_88 : decode cX8_error 88 = .ok (.iconst 1, 1) := by decide +kernel
theorem dX8_error_89 : decode cX8_error 89 = .ok (.isub, 1) := by decide +kernel
theorem dX8_error_90 : decode cX8_error 90 = .ok (.iaload, 1) := by decide +kernel
theorem dX8_error_91 : decode cX8_error 91 = .ok (.bipush 6, 2) := by decide +kernel
theorem dX8_error_93 : decode cX8_error 93 = .ok (.if_icmp .ge 7, 3) := by decide +kernel
theorem dX8_error_96 : decode cX8_error 96 = .ok (.iconst 1, 1) := by decide +kernel
theorem dX8_error_97 : decode cX8_error 97 = .ok (.goto 4, 3) := by decide +kernel
theorem dX8_error_100 : decode cX8_error 100 = .ok (.iconst 0, 1) := by decide +kernel
theorem dX8_error_101 : decode cX8_error 101 = .ok (.istore 4, 2) := by decide +kernel
theorem dX8_error_103 : decode cX8_error 103 = .ok (.iload 4, 2) := by decide +kernel
theorem dX8_error_105 : decode cX8_error 105 = .ok (.ifCond .ne 5, 3) := by decide +kernel
theorem dX8_error_108 : decode cX8_error 108 = .ok (.iload_n 2, 1) := by decide +kernel
theorem dX8_error_109 : decode cX8_error 109 = .ok (.ireturn, 1) := by decide +kernel
theorem dX8_error_110 : decode cX8_error 110 = .ok (.iload_n 3, 1) := by decide +kernel
theorem dX8_error_111 : decode cX8_error 111 = .ok (.bipush 40, 2) := by decide +kernel
theorem dX8_error_113 : decode cX8_error 113 = .ok (.if_icmp .ne 23, 3) := by decide +kernel
theorem dX8_error_116 : decode cX8_error 116 = .ok (.aload_n 0, 1) := by decide +kernel
theorem dX8_error_117 : decode cX8_error 117 = .ok (.getfield 26, 3) := by decide +kernel
theorem dX8_error_120 : decode cX8_error 120 = .ok (.aload_n 0, 1) := by decide +kernel
theorem dX8_error_121 : decode cX8_error 121 = .ok (.getfield 119, 3) := by decide +kernel
theorem dX8_error_124 : decode cX8_error 124 = .ok (.iconst 1, 1) := by decide +kernel
theorem dX8_error_125 : decode cX8_error 125 = .ok (.iastore, 1) := by decide +kernel
theorem dX8_error_126 : decode cX8_error 126 = .ok (.aload_n 0, 1) := by decide +kernel
theorem dX8_error_127 : decode cX8_error 127 = .ok (.dup, 1) := by decide +kernel
theorem dX8_error_128 : decode cX8_error 128 = .ok (.getfield 119, 3) := by decide +kernel
theorem dX8_error_131 : decode cX8_error 131 = .ok (.iconst 1, 1) := by decide +kernel
theorem dX8_error_132 : decode cX8_error 132 = .ok (.iadd, 1) := by decide +kernel
theorem dX8_error_133 : decode cX8_error 133 = .ok (.putfield 119, 3) := by decide +kernel
theorem dX8_error_136 : decode cX8_error 136 = .ok (.iload_n 3, 1) := by decide +kernel
theorem dX8_error_137 : decode cX8_error 137 = .ok (.bipush 41, 2) := by decide +kernel
theorem dX8_error_139 : decode cX8_error 139 = .ok (.if_icmp .ne 13, 3) := by decide +kernel
theorem dX8_error_142 : decode cX8_error 142 = .ok (.aload_n 0, 1) := by decide +kernel
theorem dX8_error_143 : decode cX8_error 143 = .ok (.dup, 1) := by decide +kernel
theorem dX8_error_144 : decode cX8_error 144 = .ok (.getfield 119, 3) := by decide +kernel
theorem dX8_error_147 : decode cX8_error 147 = .ok (.iconst 1, 1) := by decide +kernel
theorem dX8_error_148 : decode cX8_error 148 = .ok (.isub, 1) := by decide +kernel
theorem dX8_error_149 : decode cX8_error 149 = .ok (.putfield 119, 3) := by decide +kernel
theorem dX8_error_152 : decode cX8_error 152 = .ok (.iload_n 3, 1) := by decide +kernel
theorem dX8_error_153 : decode cX8_error 153 = .ok (.bipush 44, 2) := by decide +kernel
theorem dX8_error_155 : decode cX8_error 155 = .ok (.if_icmp .ne 18, 3) := by decide +kernel
theorem dX8_error_158 : decode cX8_error 158 = .ok (.aload_n 0, 1) := by decide +kernel
theorem dX8_error_159 : decode cX8_error 159 = .ok (.getfield 26, 3) := by decide +kernel
theorem dX8_error_162 : decode cX8_error 162 = .ok (.aload_n 0, 1) := by decide +kernel
theorem dX8_error_163 : decode cX8_error 163 = .ok (.getfield 119, 3) := by decide +kernel
theorem dX8_error_166 : decode cX8_error 166 = .ok (.iconst 1, 1) := by decide +kernel
theorem dX8_error_167 : decode cX8_error 167 = .ok (.isub, 1) := by decide +kernel
theorem dX8_error_168 : decode cX8_error 168 = .ok (.dup2, 1) := by decide +kernel
theorem dX8_error_169 : decode cX8_error 169 = .ok (.iaload, 1) := by decide +kernel
theorem dX8_error_170 : decode cX8_error 170 = .ok (.iconst 1, 1) := by decide +kernel
theorem dX8_error_171 : decode cX8_error 171 = .ok (.iadd, 1) := by decide +kernel
theorem dX8_error_172 : decode cX8_error 172 = .ok (.iastore, 1) := by decide +kernel
theorem dX8_error_173 : decode cX8_error 173 = .ok (.iload_n 3, 1) := by decide +kernel
theorem dX8_error_174 : decode cX8_error 174 = .ok (.invokestatic 125, 3) := by decide +kernel
theorem dX8_error_177 : decode cX8_error 177 = .ok (.istore_n 1, 1) := by decide +kernel
theorem dX8_error_178 : decode cX8_error 178 = .ok (.iinc 2 1, 3) := by decide +kernel
theorem dX8_error_181 : decode cX8_error 181 = .ok (.goto (-172), 3) := by decide +kernel
theorem dX8_error_184 : decode cX8_error 184 = .ok (.aload_n 0, 1) := by decide +kernel
theorem dX8_error_185 : decode cX8_error 185 = .ok (.getfield 106, 3) := by decide +kernel
theorem dX8_error_188 : decode cX8_error 188 = .ok (.ireturn, 1) := by decide +kernel
theorem dX8_isWhole_0 : decode cX8_isWhole 0 = .ok (.aload_n 0, 1) := by decide +kernel
theorem dX8_isWhole_1 : decode cX8_isWhole 1 = .ok (.invokevirtual 128, 3) := by decide +kernel
theorem dX8_isWhole_4 : decode cX8_isWhole 4 = .ok (.aload_n 0, 1) := by decide +kernel
theorem dX8_isWhole_5 : decode cX8_isWhole 5 = .ok (.getfield 106, 3) := by decide +kernel
theorem dX8_isWhole_8 : decode cX8_isWhole 8 = .ok (.if_icmp .ne 14, 3) := by decide +kernel
theorem dX8_isWhole_11 : decode cX8_isWhole 11 = .ok (.aload_n 0, 1) := by decide +kernel
theorem dX8_isWhole_12 : decode cX8_isWhole 12 = .ok (.getfield 119, 3) := by decide +kernel
theorem dX8_isWhole_15 : decode cX8_isWhole 15 = .ok (.ifCond .ne 7, 3) := by decide +kernel
theorem dX8_isWhole_18 : decode cX8_isWhole 18 = .ok (.iconst 1, 1) := by decide +kernel
theorem dX8_isWhole_19 : decode cX8_isWhole 19 = .ok (.goto 4, 3) := by decide +kernel
theorem dX8_isWhole_22 : decode cX8_isWhole 22 = .ok (.iconst 0, 1) := by decide +kernel
theorem dX8_isWhole_23 : decode cX8_isWhole 23 = .ok (.ireturn, 1) := by decide +kernel
theorem dX8_firstError_0 : decode cX8_firstError 0 = .ok (.aload_n 0, 1) := by decide +kernel
theorem dX8_firstError_1 : decode cX8_firstError 1 = .ok (.iconst 0, 1) := by decide +kernel
theorem dX8_firstError_2 : decode cX8_firstError 2 = .ok (.putfield 98, 3) := by decide +kernel
theorem dX8_firstError_5 : decode cX8_firstError 5 = .ok (.aload_n 0, 1) := by decide +kernel
theorem dX8_firstError_6 : decode cX8_firstError 6 = .ok (.invokevirtual 128, 3) := by decide +kernel
theorem dX8_firstError_9 : decode cX8_firstError 9 = .ok (.ireturn, 1) := by decide +kernel
theorem dX8_load_0 : decode cX8_load 0 = .ok (.aload_n 0, 1) := by decide +kernel
theorem dX8_load_1 : decode cX8_load 1 = .ok (.iload_n 1, 1) := by decide +kernel
theorem dX8_load_2 : decode cX8_load 2 = .ok (.invokestatic 132, 3) := by decide +kernel
theorem dX8_load_5 : decode cX8_load 5 = .ok (.ifCond .ne 7, 3) := by decide +kernel
theorem dX8_load_8 : decode cX8_load 8 = .ok (.iconst 1, 1) := by decide +kernel
theorem dX8_load_9 : decode cX8_load 9 = .ok (.goto 16, 3) := by decide +kernel
theorem dX8_load_12 : decode cX8_load 12 = .ok (.aload_n 0, 1) := by decide +kernel
theorem dX8_load_13 : decode cX8_load 13 = .ok (.iload_n 1, 1) := by decide +kernel
theorem dX8_load_14 : decode cX8_load 14 = .ok (.invokevirtual 112, 3) := by decide +kernel
theorem dX8_load_17 : decode cX8_load 17 = .ok (.ifCond .eq 7, 3) := by decide +kernel
theorem dX8_load_20 : decode cX8_load 20 = .ok (.iconst 0, 1) := by decide +kernel
theorem dX8_load_21 : decode cX8_load 21 = .ok (.goto 4, 3) := by decide +kernel
theorem dX8_load_24 : decode cX8_load 24 = .ok (.iconst 2, 1) := by decide +kernel
theorem dX8_load_25 : decode cX8_load 25 = .ok (.invokevirtual 116, 3) := by decide +kernel
theorem dX8_load_28 : decode cX8_load 28 = .ok (.ifCond .eq 5, 3) := by decide +kernel
theorem dX8_load_31 : decode cX8_load 31 = .ok (.iconst 0, 1) := by decide +kernel
theorem dX8_load_32 : decode cX8_load 32 = .ok (.ireturn, 1) := by decide +kernel
theorem dX8_load_33 : decode cX8_load 33 = .ok (.aload_n 0, 1) := by decide +kernel
theorem dX8_load_34 : decode cX8_load 34 = .ok (.aload_n 0, 1) := by decide +kernel
theorem dX8_load_35 : decode cX8_load 35 = .ok (.getfield 7, 3) := by decide +kernel
theorem dX8_load_38 : decode cX8_load 38 = .ok (.iload_n 1, 1) := by decide +kernel
theorem dX8_load_39 : decode cX8_load 39 = .ok (.iaload, 1) := by decide +kernel
theorem dX8_load_40 : decode cX8_load 40 = .ok (.putfield 106, 3) := by decide +kernel
theorem dX8_load_43 : decode cX8_load 43 = .ok (.iconst 0, 1) := by decide +kernel
theorem dX8_load_44 : decode cX8_load 44 = .ok (.istore_n 2, 1) := by decide +kernel
theorem dX8_load_45 : decode cX8_load 45 = .ok (.iload_n 2, 1) := by decide +kernel
theorem dX8_load_46 : decode cX8_load 46 = .ok (.aload_n 0, 1) := by decide +kernel
theorem dX8_load_47 : decode cX8_load 47 = .ok (.getfield 106, 3) := by decide +kernel
theorem dX8_load_50 : decode cX8_load 50 = .ok (.if_icmp .ge 29, 3) := by decide +kernel
theorem dX8_load_53 : decode cX8_load 53 = .ok (.aload_n 0, 1) := by decide +kernel
theorem dX8_load_54 : decode cX8_load 54 = .ok (.getfield 23, 3) := by decide +kernel
theorem dX8_load_57 : decode cX8_load 57 = .ok (.iload_n 2, 1) := by decide +kernel
theorem dX8_load_58 : decode cX8_load 58 = .ok (.aload_n 0, 1) := by decide +kernel
theorem dX8_load_59 : decode cX8_load 59 = .ok (.getfield 7, 3) := by decide +kernel
theorem dX8_load_62 : decode cX8_load 62 = .ok (.bipush 26, 2) := by decide +kernel
theorem dX8_load_64 : decode cX8_load 64 = .ok (.bipush 60, 2) := by decide +kernel
theorem dX8_load_66 : decode cX8_load 66 = .ok (.iload_n 1, 1) := by decide +kernel
theorem dX8_load_67 : decode cX8_load 67 = .ok (.imul, 1) := by decide +kernel
theorem dX8_load_68 : decode cX8_load 68 = .ok (.iadd, 1) := by decide +kernel
theorem dX8_load_69 : decode cX8_load 69 = .ok (.iload_n 2, 1) := by decide +kernel
theorem dX8_load_70 : decode cX8_load 70 = .ok (.iadd, 1) := by decide +kernel
theorem dX8_load_71 : decode cX8_load 71 = .ok (.iaload, 1) := by decide +kernel
theorem dX8_load_72 : decode cX8_load 72 = .ok (.iastore, 1) := by decide +kernel
theorem dX8_load_73 : decode cX8_load 73 = .ok (.iinc 2 1, 3) := by decide +kernel
theorem dX8_load_76 : decode cX8_load 76 = .ok (.goto (-31), 3) := by decide +kernel
theorem dX8_load_79 : decode cX8_load 79 = .ok (.aload_n 0, 1) := by decide +kernel
theorem dX8_load_80 : decode cX8_load 80 = .ok (.getfield 106, 3) := by decide +kernel
theorem dX8_load_83 : decode cX8_load 83 = .ok (.ireturn, 1) := by decide +kernel
theorem dX8_holesOf_0 : decode cX8_holesOf 0 = .ok (.iconst 0, 1) := by decide +kernel
theorem dX8_holesOf_1 : decode cX8_holesOf 1 = .ok (.istore_n 3, 1) := by decide +kernel
theorem dX8_holesOf_2 : decode cX8_holesOf 2 = .ok (.iconst 0, 1) := by decide +kernel
theorem dX8_holesOf_3 : decode cX8_holesOf 3 = .ok (.istore 4, 2) := by decide +kernel
theorem dX8_holesOf_5 : decode cX8_holesOf 5 = .ok (.iload 4, 2) := by decide +kernel
theorem dX8_holesOf_7 : decode cX8_holesOf 7 = .ok (.iload_n 2, 1) := by decide +kernel
theorem dX8_holesOf_8 : decode cX8_holesOf 8 = .ok (.if_icmp .ge 29, 3) := by decide +kernel
theorem dX8_holesOf_11 : decode cX8_holesOf 11 = .ok (.iload_n 3, 1) := by decide +kernel
theorem dX8_holesOf_12 : decode cX8_holesOf 12 = .ok (.aload_n 0, 1) := by decide +kernel
theorem dX8_holesOf_13 : decode cX8_holesOf 13 = .ok (.iload_n 1, 1) := by decide +kernel
theorem dX8_holesOf_14 : decode cX8_holesOf 14 = .ok (.iload 4, 2) := by decide +kernel
theorem dX8_holesOf_16 : decode cX8_holesOf 16 = .ok (.invokevirtual 135, 3) := by decide +kernel
theorem dX8_holesOf_19 : decode cX8_holesOf 19 = .ok (.bipush 63, 2) := by decide +kernel
theorem dX8_holesOf_21 : decode cX8_holesOf 21 = .ok (.if_icmp .ne 7, 3) := by decide +kernel
theorem dX8_holesOf_24 : decode cX8_holesOf 24 = .ok (.iconst 1, 1) := by decide +kernel
theorem dX8_holesOf_25 : decode cX8_holesOf 25 = .ok (.goto 4, 3) := by decide +kernel
theorem dX8_holesOf_28 : decode cX8_holesOf 28 = .ok (.iconst 0, 1) := by decide +kernel
theorem dX8_holesOf_29 : decode cX8_holesOf 29 = .ok (.iadd, 1) := by decide +kernel
theorem dX8_holesOf_30 : decode cX8_holesOf 30 = .ok (.istore_n 3, 1) := by decide +kernel
theorem dX8_holesOf_31 : decode cX8_holesOf 31 = .ok (.iinc 4 1, 3) := by decide +kernel
theorem dX8_holesOf_34 : decode cX8_holesOf 34 = .ok (.goto (-29), 3) := by decide +kernel
theorem dX8_holesOf_37 : decode cX8_holesOf 37 = .ok (.iload_n 3, 1) := by decide +kernel
theorem dX8_holesOf_38 : decode cX8_holesOf 38 = .ok (.ireturn, 1) := by decide +kernel
theorem dX8_lays_0 : decode cX8_lays 0 = .ok (.aload_n 0, 1) := by decide +kernel
theorem dX8_lays_1 : decode cX8_lays 1 = .ok (.getfield 7, 3) := by decide +kernel
theorem dX8_lays_4 : decode cX8_lays 4 = .ok (.iload_n 1, 1) := by decide +kernel
theorem dX8_lays_5 : decode cX8_lays 5 = .ok (.aload_n 0, 1) := by decide +kernel
theorem dX8_lays_6 : decode cX8_lays 6 = .ok (.getfield 106, 3) := by decide +kernel
theorem dX8_lays_9 : decode cX8_lays 9 = .ok (.iastore, 1) := by decide +kernel
theorem dX8_lays_10 : decode cX8_lays 10 = .ok (.iconst 0, 1) := by decide +kernel
theorem dX8_lays_11 : decode cX8_lays 11 = .ok (.istore_n 2, 1) := by decide +kernel
theorem dX8_lays_12 : decode cX8_lays 12 = .ok (.iload_n 2, 1) := by decide +kernel
theorem dX8_lays_13 : decode cX8_lays 13 = .ok (.bipush 60, 2) := by decide +kernel
theorem dX8_lays_15 : decode cX8_lays 15 = .ok (.if_icmp .ge 41, 3) := by decide +kernel
theorem dX8_lays_18 : decode cX8_lays 18 = .ok (.aload_n 0, 1) := by decide +kernel
theorem dX8_lays_19 : decode cX8_lays 19 = .ok (.getfield 7, 3) := by decide +kernel
theorem dX8_lays_22 : decode cX8_lays 22 = .ok (.bipush 26, 2) := by decide +kernel
theorem dX8_lays_24 : decode cX8_lays 24 = .ok (.bipush 60, 2) := by decide +kernel
theorem dX8_lays_26 : decode cX8_lays 26 = .ok (.iload_n 1, 1) := by decide +kernel
theorem dX8_lays_27 : decode cX8_lays 27 = .ok (.imul, 1) := by decide +kernel
theorem dX8_lays_28 : decode cX8_lays 28 = .ok (.iadd, 1) := by decide +kernel
theorem dX8_lays_29 : decode cX8_lays 29 = .ok (.iload_n 2, 1) := by decide +kernel
theorem dX8_lays_30 : decode cX8_lays 30 = .ok (.iadd, 1) := by decide +kernel
theorem dX8_lays_31 : decode cX8_lays 31 = .ok (.iload_n 2, 1) := by decide +kernel
theorem dX8_lays_32 : decode cX8_lays 32 = .ok (.aload_n 0, 1) := by decide +kernel
theorem dX8_lays_33 : decode cX8_lays 33 = .ok (.getfield 106, 3) := by decide +kernel
theorem dX8_lays_36 : decode cX8_lays 36 = .ok (.if_icmp .ge 12, 3) := by decide +kernel
theorem dX8_lays_39 : decode cX8_lays 39 = .ok (.aload_n 0, 1) := by decide +kernel
theorem dX8_lays_40 : decode cX8_lays 40 = .ok (.getfield 23, 3) := by decide +kernel
theorem dX8_lays_43 : decode cX8_lays 43 = .ok (.iload_n 2, 1) := by decide +kernel
theorem dX8_lays_44 : decode cX8_lays 44 = .ok (.iaload, 1) := by decide +kernel
theorem dX8_lays_45 : decode cX8_lays 45 = .ok (.goto 4, 3) := by decide +kernel
theorem dX8_lays_48 : decode cX8_lays 48 = .ok (.iconst 0, 1) := by decide +kernel
theorem dX8_lays_49 : decode cX8_lays 49 = .ok (.iastore, 1) := by decide +kernel
theorem dX8_lays_50 : decode cX8_lays 50 = .ok (.iinc 2 1, 3) := by decide +kernel
theorem dX8_lays_53 : decode cX8_lays 53 = .ok (.goto (-41), 3) := by decide +kernel
theorem dX8_lays_56 : decode cX8_lays 56 = .ok (.return_, 1) := by decide +kernel
theorem dX8_define_0 : decode cX8_define 0 = .ok (.aload_n 0, 1) := by decide +kernel
theorem dX8_define_1 : decode cX8_define 1 = .ok (.iload_n 1, 1) := by decide +kernel
theorem dX8_define_2 : decode cX8_define 2 = .ok (.invokestatic 132, 3) := by decide +kernel
theorem dX8_define_5 : decode cX8_define 5 = .ok (.ifCond .ne 7, 3) := by decide +kernel
theorem dX8_define_8 : decode cX8_define 8 = .ok (.iconst 1, 1) := by decide +kernel
theorem dX8_define_9 : decode cX8_define 9 = .ok (.goto 15, 3) := by decide +kernel
theorem dX8_define_12 : decode cX8_define 12 = .ok (.aload_n 0, 1) := by decide +kernel
theorem dX8_define_13 : decode cX8_define 13 = .ok (.invokevirtual 139, 3) := by decide +kernel
theorem dX8_define_16 : decode cX8_define 16 = .ok (.ifCond .eq 7, 3) := by decide +kernel
theorem dX8_define_19 : decode cX8_define 19 = .ok (.iconst 0, 1) := by decide +kernel
theorem dX8_define_20 : decode cX8_define 20 = .ok (.goto 4, 3) := by decide +kernel
theorem dX8_define_23 : decode cX8_define 23 = .ok (.iconst 2, 1) := by decide +kernel
theorem dX8_define_24 : decode cX8_define 24 = .ok (.invokevirtual 116, 3) := by decide +kernel
theorem dX8_define_27 : decode cX8_define 27 = .ok (.ifCond .eq 5, 3) := by decide +kernel
theorem dX8_define_30 : decode cX8_define 30 = .ok (.iconst 0, 1) := by decide +kernel
theorem dX8_define_31 : decode cX8_define 31 = .ok (.ireturn, 1) := by decide +kernel
theorem dX8_define_32 : decode cX8_define 32 = .ok (.aload_n 0, 1) := by decide +kernel
theorem dX8_define_33 : decode cX8_define 33 = .ok (.invokevirtual 143, 3) := by decide +kernel
theorem dX8_define_36 : decode cX8_define 36 = .ok (.aload_n 0, 1) := by decide +kernel
theorem dX8_define_37 : decode cX8_define 37 = .ok (.iload_n 1, 1) := by decide +kernel
theorem dX8_define_38 : decode cX8_define 38 = .ok (.invokevirtual 146, 3) := by decide +kernel
theorem dX8_define_41 : decode cX8_define 41 = .ok (.aload_n 0, 1) := by decide +kernel
theorem dX8_define_42 : decode cX8_define 42 = .ok (.iconst 0, 1) := by decide +kernel
theorem dX8_define_43 : decode cX8_define 43 = .ok (.putfield 106, 3) := by decide +kernel
theorem dX8_define_46 : decode cX8_define 46 = .ok (.aload_n 0, 1) := by decide +kernel
theorem dX8_define_47 : decode cX8_define 47 = .ok (.iload_n 1, 1) := by decide +kernel
theorem dX8_define_48 : decode cX8_define 48 = .ok (.aload_n 0, 1) := by decide +kernel
theorem dX8_define_49 : decode cX8_define 49 = .ok (.getfield 7, 3) := by decide +kernel
theorem dX8_define_52 : decode cX8_define 52 = .ok (.iload_n 1, 1) := by decide +kernel
theorem dX8_define_53 : decode cX8_define 53 = .ok (.iaload, 1) := by decide +kernel
theorem dX8_define_54 : decode cX8_define 54 = .ok (.invokevirtual 150, 3) := by decide +kernel
theorem dX8_define_57 : decode cX8_define 57 = .ok (.ireturn, 1) := by decide +kernel
theorem dX8_remove_0 : decode cX8_remove 0 = .ok (.aload_n 0, 1) := by decide +kernel
theorem dX8_remove_1 : decode cX8_remove 1 = .ok (.iload_n 1, 1) := by decide +kernel
theorem dX8_remove_2 : decode cX8_remove 2 = .ok (.invokestatic 132, 3) := by decide +kernel
theorem dX8_remove_5 : decode cX8_remove 5 = .ok (.ifCond .ne 7, 3) := by decide +kernel
theorem dX8_remove_8 : decode cX8_remove 8 = .ok (.iconst 1, 1) := by decide +kernel
theorem dX8_remove_9 : decode cX8_remove 9 = .ok (.goto 16, 3) := by decide +kernel
theorem dX8_remove_12 : decode cX8_remove 12 = .ok (.aload_n 0, 1) := by decide +kernel
theorem dX8_remove_13 : decode cX8_remove 13 = .ok (.iload_n 1, 1) := by decide +kernel
theorem dX8_remove_14 : decode cX8_remove 14 = .ok (.invokevirtual 112, 3) := by decide +kernel
theorem dX8_remove_17 : decode cX8_remove 17 = .ok (.ifCond .eq 7, 3) := by decide +kernel
theorem dX8_remove_20 : decode cX8_remove 20 = .ok (.iconst 0, 1) := by decide +kernel
theorem dX8_remove_21 : decode cX8_remove 21 = .ok (.goto 4, 3) := by decide +kernel
theorem dX8_remove_24 : decode cX8_remove 24 = .ok (.iconst 2, 1) := by decide +kernel
theorem dX8_remove_25 : decode cX8_remove 25 = .ok (.invokevirtual 116, 3) := by decide +kernel
theorem dX8_remove_28 : decode cX8_remove 28 = .ok (.ifCond .eq 5, 3) := by decide +kernel
theorem dX8_remove_31 : decode cX8_remove 31 = .ok (.iconst 0, 1) := by decide +kernel
theorem dX8_remove_32 : decode cX8_remove 32 = .ok (.ireturn, 1) := by decide +kernel
theorem dX8_remove_33 : decode cX8_remove 33 = .ok (.aload_n 0, 1) := by decide +kernel
theorem dX8_remove_34 : decode cX8_remove 34 = .ok (.invokevirtual 143, 3) := by decide +kernel
theorem dX8_remove_37 : decode cX8_remove 37 = .ok (.aload_n 0, 1) := by decide +kernel
theorem dX8_remove_38 : decode cX8_remove 38 = .ok (.getfield 7, 3) := by decide +kernel
theorem dX8_remove_41 : decode cX8_remove 41 = .ok (.iload_n 1, 1) := by decide +kernel
theorem dX8_remove_42 : decode cX8_remove 42 = .ok (.iconst (-1), 1) := by decide +kernel
theorem dX8_remove_43 : decode cX8_remove 43 = .ok (.iastore, 1) := by decide +kernel
theorem dX8_remove_44 : decode cX8_remove 44 = .ok (.aload_n 0, 1) := by decide +kernel
theorem dX8_remove_45 : decode cX8_remove 45 = .ok (.invokevirtual 153, 3) := by decide +kernel
theorem dX8_remove_48 : decode cX8_remove 48 = .ok (.ireturn, 1) := by decide +kernel
theorem dX8_exchange_0 : decode cX8_exchange 0 = .ok (.aload_n 0, 1) := by decide +kernel
theorem dX8_exchange_1 : decode cX8_exchange 1 = .ok (.iload_n 1, 1) := by decide +kernel
theorem dX8_exchange_2 : decode cX8_exchange 2 = .ok (.invokestatic 132, 3) := by decide +kernel
theorem dX8_exchange_5 : decode cX8_exchange 5 = .ok (.ifCond .eq 14, 3) := by decide +kernel
theorem dX8_exchange_8 : decode cX8_exchange 8 = .ok (.iload_n 2, 1) := by decide +kernel
theorem dX8_exchange_9 : decode cX8_exchange 9 = .ok (.invokestatic 132, 3) := by decide +kernel
theorem dX8_exchange_12 : decode cX8_exchange 12 = .ok (.ifCond .eq 7, 3) := by decide +kernel
theorem dX8_exchange_15 : decode cX8_exchange 15 = .ok (.iconst 0, 1) := by decide +kernel
theorem dX8_exchange_16 : decode cX8_exchange 16 = .ok (.goto 4, 3) := by decide +kernel
theorem dX8_exchange_19 : decode cX8_exchange 19 = .ok (.iconst 1, 1) := by decide +kernel
theorem dX8_exchange_20 : decode cX8_exchange 20 = .ok (.invokevirtual 116, 3) := by decide +kernel
theorem dX8_exchange_23 : decode cX8_exchange 23 = .ok (.ifCond .eq 5, 3) := by decide +kernel
theorem dX8_exchange_26 : decode cX8_exchange 26 = .ok (.iconst 0, 1) := by decide +kernel
theorem dX8_exchange_27 : decode cX8_exchange 27 = .ok (.ireturn, 1) := by decide +kernel
theorem dX8_exchange_28 : decode cX8_exchange 28 = .ok (.aload_n 0, 1) := by decide +kernel
theorem dX8_exchange_29 : decode cX8_exchange 29 = .ok (.invokevirtual 143, 3) := by decide +kernel
theorem dX8_exchange_32 : decode cX8_exchange 32 = .ok (.aload_n 0, 1) := by decide +kernel
theorem dX8_exchange_33 : decode cX8_exchange 33 = .ok (.getfield 7, 3) := by decide +kernel
theorem dX8_exchange_36 : decode cX8_exchange 36 = .ok (.iload_n 1, 1) := by decide +kernel
theorem dX8_exchange_37 : decode cX8_exchange 37 = .ok (.iaload, 1) := by decide +kernel
theorem dX8_exchange_38 : decode cX8_exchange 38 = .ok (.istore_n 3, 1) := by decide +kernel
theorem dX8_exchange_39 : decode cX8_exchange 39 = .ok (.aload_n 0, 1) := by decide +kernel
theorem dX8_exchange_40 : decode cX8_exchange 40 = .ok (.getfield 7, 3) := by decide +kernel
theorem dX8_exchange_43 : decode cX8_exchange 43 = .ok (.iload_n 1, 1) := by decide +kernel
theorem dX8_exchange_44 : decode cX8_exchange 44 = .ok (.aload_n 0, 1) := by decide +kernel
theorem dX8_exchange_45 : decode cX8_exchange 45 = .ok (.getfield 7, 3) := by decide +kernel
theorem dX8_exchange_48 : decode cX8_exchange 48 = .ok (.iload_n 2, 1) := by decide +kernel
theorem dX8_exchange_49 : decode cX8_exchange 49 = .ok (.iaload, 1) := by decide +kernel
theorem dX8_exchange_50 : decode cX8_exchange 50 = .ok (.iastore, 1) := by decide +kernel
theorem dX8_exchange_51 : decode cX8_exchange 51 = .ok (.aload_n 0, 1) := by decide +kernel
theorem dX8_exchange_52 : decode cX8_exchange 52 = .ok (.getfield 7, 3) := by decide +kernel
theorem dX8_exchange_55 : decode cX8_exchange 55 = .ok (.iload_n 2, 1) := by decide +kernel
theorem dX8_exchange_56 : decode cX8_exchange 56 = .ok (.iload_n 3, 1) := by decide +kernel
theorem dX8_exchange_57 : decode cX8_exchange 57 = .ok (.iastore, 1) := by decide +kernel
theorem dX8_exchange_58 : decode cX8_exchange 58 = .ok (.iconst 0, 1) := by decide +kernel
theorem dX8_exchange_59 : decode cX8_exchange 59 = .ok (.istore 4, 2) := by decide +kernel
theorem dX8_exchange_61 : decode cX8_exchange 61 = .ok (.iload 4, 2) := by decide +kernel
theorem dX8_exchange_63 : decode cX8_exchange 63 = .ok (.bipush 60, 2) := by decide +kernel
theorem dX8_exchange_65 : decode cX8_exchange 65 = .ok (.if_icmp .ge 73, 3) := by decide +kernel
theorem dX8_exchange_68 : decode cX8_exchange 68 = .ok (.aload_n 0, 1) := by decide +kernel
theorem dX8_exchange_69 : decode cX8_exchange 69 = .ok (.getfield 7, 3) := by decide +kernel
theorem dX8_exchange_72 : decode cX8_exchange 72 = .ok (.bipush 26, 2) := by decide +kernel
theorem dX8_exchange_74 : decode cX8_exchange 74 = .ok (.bipush 60, 2) := by decide +kernel
theorem dX8_exchange_76 : decode cX8_exchange 76 = .ok (.iload_n 1, 1) := by decide +kernel
theorem dX8_exchange_77 : decode cX8_exchange 77 = .ok (.imul, 1) := by decide +kernel
theorem dX8_exchange_78 : decode cX8_exchange 78 = .ok (.iadd, 1) := by decide +kernel
theorem dX8_exchange_79 : decode cX8_exchange 79 = .ok (.iload 4, 2) := by decide +kernel
theorem dX8_exchange_81 : decode cX8_exchange 81 = .ok (.iadd, 1) := by decide +kernel
theorem dX8_exchange_82 : decode cX8_exchange 82 = .ok (.iaload, 1) := by decide +kernel
theorem dX8_exchange_83 : decode cX8_exchange 83 = .ok (.istore 5, 2) := by decide +kernel
theorem dX8_exchange_85 : decode cX8_exchange 85 = .ok (.aload_n 0, 1) := by decide +kernel
theorem dX8_exchange_86 : decode cX8_exchange 86 = .ok (.getfield 7, 3) := by decide +kernel
theorem dX8_exchange_89 : decode cX8_exchange 89 = .ok (.bipush 26, 2) := by decide +kernel
theorem dX8_exchange_91 : decode cX8_exchange 91 = .ok (.bipush 60, 2) := by decide +kernel
theorem dX8_exchange_93 : decode cX8_exchange 93 = .ok (.iload_n 1, 1) := by decide +kernel
theorem dX8_exchange_94 : decode cX8_exchange 94 = .ok (.imul, 1) := by decide +kernel
theorem dX8_exchange_95 : decode cX8_exchange 95 = .ok (.iadd, 1) := by decide +kernel
theorem dX8_exchange_96 : decode cX8_exchange 96 = .ok (.iload 4, 2) := by decide +kernel
theorem dX8_exchange_98 : decode cX8_exchange 98 = .ok (.iadd, 1) := by decide +kernel
theorem dX8_exchange_99 : decode cX8_exchange 99 = .ok (.aload_n 0, 1) := by decide +kernel
theorem dX8_exchange_100 : decode cX8_exchange 100 = .ok (.getfield 7, 3) := by decide +kernel
theorem dX8_exchange_103 : decode cX8_exchange 103 = .ok (.bipush 26, 2) := by decide +kernel
theorem dX8_exchange_105 : decode cX8_exchange 105 = .ok (.bipush 60, 2) := by decide +kernel
theorem dX8_exchange_107 : decode cX8_exchange 107 = .ok (.iload_n 2, 1) := by decide +kernel
theorem dX8_exchange_108 : decode cX8_exchange 108 = .ok (.imul, 1) := by decide +kernel
theorem dX8_exchange_109 : decode cX8_exchange 109 = .ok (.iadd, 1) := by decide +kernel
theorem dX8_exchange_110 : decode cX8_exchange 110 = .ok (.iload 4, 2) := by decide +kernel
theorem dX8_exchange_112 : decode cX8_exchange 112 = .ok (.iadd, 1) := by decide +kernel
theorem dX8_exchange_113 : decode cX8_exchange 113 = .ok (.iaload, 1) := by decide +kernel
theorem dX8_exchange_114 : decode cX8_exchange 114 = .ok (.iastore, 1) := by decide +kernel
theorem dX8_exchange_115 : decode cX8_exchange 115 = .ok (.aload_n 0, 1) := by decide +kernel
theorem dX8_exchange_116 : decode cX8_exchange 116 = .ok (.getfield 7, 3) := by decide +kernel
theorem dX8_exchange_119 : decode cX8_exchange 119 = .ok (.bipush 26, 2) := by decide +kernel
theorem dX8_exchange_121 : decode cX8_exchange 121 = .ok (.bipush 60, 2) := by decide +kernel
theorem dX8_exchange_123 : decode cX8_exchange 123 = .ok (.iload_n 2, 1) := by decide +kernel
theorem dX8_exchange_124 : decode cX8_exchange 124 = .ok (.imul, 1) := by decide +kernel
theorem dX8_exchange_125 : decode cX8_exchange 125 = .ok (.iadd, 1) := by decide +kernel
theorem dX8_exchange_126 : decode cX8_exchange 126 = .ok (.iload 4, 2) := by decide +kernel
theorem dX8_exchange_128 : decode cX8_exchange 128 = .ok (.iadd, 1) := by decide +kernel
theorem dX8_exchange_129 : decode cX8_exchange 129 = .ok (.iload 5, 2) := by decide +kernel
theorem dX8_exchange_131 : decode cX8_exchange 131 = .ok (.iastore, 1) := by decide +kernel
theorem dX8_exchange_132 : decode cX8_exchange 132 = .ok (.iinc 4 1, 3) := by decide +kernel
theorem dX8_exchange_135 : decode cX8_exchange 135 = .ok (.goto (-74), 3) := by decide +kernel
theorem dX8_exchange_138 : decode cX8_exchange 138 = .ok (.aload_n 0, 1) := by decide +kernel
theorem dX8_exchange_139 : decode cX8_exchange 139 = .ok (.iload_n 1, 1) := by decide +kernel
theorem dX8_exchange_140 : decode cX8_exchange 140 = .ok (.invokevirtual 112, 3) := by decide +kernel
theorem dX8_exchange_143 : decode cX8_exchange 143 = .ok (.ifCond .eq 7, 3) := by decide +kernel
theorem dX8_exchange_146 : decode cX8_exchange 146 = .ok (.iconst 1, 1) := by decide +kernel
theorem dX8_exchange_147 : decode cX8_exchange 147 = .ok (.goto 4, 3) := by decide +kernel
theorem dX8_exchange_150 : decode cX8_exchange 150 = .ok (.iconst 0, 1) := by decide +kernel
theorem dX8_exchange_151 : decode cX8_exchange 151 = .ok (.aload_n 0, 1) := by decide +kernel
theorem dX8_exchange_152 : decode cX8_exchange 152 = .ok (.iload_n 2, 1) := by decide +kernel
theorem dX8_exchange_153 : decode cX8_exchange 153 = .ok (.invokevirtual 112, 3) := by decide +kernel
theorem dX8_exchange_156 : decode cX8_exchange 156 = .ok (.ifCond .eq 7, 3) := by decide +kernel
theorem dX8_exchange_159 : decode cX8_exchange 159 = .ok (.iconst 1, 1) := by decide +kernel
theorem dX8_exchange_160 : decode cX8_exchange 160 = .ok (.goto 4, 3) := by decide +kernel
theorem dX8_exchange_163 : decode cX8_exchange 163 = .ok (.iconst 0, 1) := by decide +kernel
theorem dX8_exchange_164 : decode cX8_exchange 164 = .ok (.iadd, 1) := by decide +kernel
theorem dX8_exchange_165 : decode cX8_exchange 165 = .ok (.ireturn, 1) := by decide +kernel
theorem dX8_set_0 : decode cX8_set 0 = .ok (.aload_n 0, 1) := by decide +kernel
theorem dX8_set_1 : decode cX8_set 1 = .ok (.iload_n 1, 1) := by decide +kernel
theorem dX8_set_2 : decode cX8_set 2 = .ok (.iconst 1, 1) := by decide +kernel
theorem dX8_set_3 : decode cX8_set 3 = .ok (.bipush 12, 2) := by decide +kernel
theorem dX8_set_5 : decode cX8_set 5 = .ok (.invokestatic 102, 3) := by decide +kernel
theorem dX8_set_8 : decode cX8_set 8 = .ok (.ifCond .eq 7, 3) := by decide +kernel
theorem dX8_set_11 : decode cX8_set 11 = .ok (.iconst 0, 1) := by decide +kernel
theorem dX8_set_12 : decode cX8_set 12 = .ok (.goto 4, 3) := by decide +kernel
theorem dX8_set_15 : decode cX8_set 15 = .ok (.iconst 1, 1) := by decide +kernel
theorem dX8_set_16 : decode cX8_set 16 = .ok (.invokevirtual 116, 3) := by decide +kernel
theorem dX8_set_19 : decode cX8_set 19 = .ok (.ifCond .eq 5, 3) := by decide +kernel
theorem dX8_set_22 : decode cX8_set 22 = .ok (.iconst 0, 1) := by decide +kernel
theorem dX8_set_23 : decode cX8_set 23 = .ok (.ireturn, 1) := by decide +kernel
theorem dX8_set_24 : decode cX8_set 24 = .ok (.aload_n 0, 1) := by decide +kernel
theorem dX8_set_25 : decode cX8_set 25 = .ok (.invokevirtual 143, 3) := by decide +kernel
theorem dX8_set_28 : decode cX8_set 28 = .ok (.aload_n 0, 1) := by decide +kernel
theorem dX8_set_29 : decode cX8_set 29 = .ok (.getfield 7, 3) := by decide +kernel
theorem dX8_set_32 : decode cX8_set 32 = .ok (.sipush 1586, 3) := by decide +kernel
theorem dX8_set_35 : decode cX8_set 35 = .ok (.iaload, 1) := by decide +kernel
theorem dX8_set_36 : decode cX8_set 36 = .ok (.istore_n 2, 1) := by decide +kernel
theorem dX8_set_37 : decode cX8_set 37 = .ok (.aload_n 0, 1) := by decide +kernel
theorem dX8_set_38 : decode cX8_set 38 = .ok (.getfield 7, 3) := by decide +kernel
theorem dX8_set_41 : decode cX8_set 41 = .ok (.sipush 1586, 3) := by decide +kernel
theorem dX8_set_44 : decode cX8_set 44 = .ok (.iload_n 1, 1) := by decide +kernel
theorem dX8_set_45 : decode cX8_set 45 = .ok (.iastore, 1) := by decide +kernel
theorem dX8_set_46 : decode cX8_set 46 = .ok (.iload_n 2, 1) := by decide +kernel
theorem dX8_set_47 : decode cX8_set 47 = .ok (.ireturn, 1) := by decide +kernel
theorem dX8_writes_0 : decode cX8_writes 0 = .ok (.aload_n 0, 1) := by decide +kernel
theorem dX8_writes_1 : decode cX8_writes 1 = .ok (.getfield 59, 3) := by decide +kernel
theorem dX8_writes_4 : decode cX8_writes 4 = .ok (.aload_n 0, 1) := by decide +kernel
theorem dX8_writes_5 : decode cX8_writes 5 = .ok (.getfield 156, 3) := by decide +kernel
theorem dX8_writes_8 : decode cX8_writes 8 = .ok (.dup2, 1) := by decide +kernel
theorem dX8_writes_9 : decode cX8_writes 9 = .ok (.iaload, 1) := by decide +kernel
theorem dX8_writes_10 : decode cX8_writes 10 = .ok (.iload_n 1, 1) := by decide +kernel
theorem dX8_writes_11 : decode cX8_writes 11 = .ok (.iadd, 1) := by decide +kernel
theorem dX8_writes_12 : decode cX8_writes 12 = .ok (.iastore, 1) := by decide +kernel
theorem dX8_writes_13 : decode cX8_writes 13 = .ok (.aload_n 0, 1) := by decide +kernel
theorem dX8_writes_14 : decode cX8_writes 14 = .ok (.aload_n 0, 1) := by decide +kernel
theorem dX8_writes_15 : decode cX8_writes 15 = .ok (.getfield 159, 3) := by decide +kernel
theorem dX8_writes_18 : decode cX8_writes 18 = .ok (.ifCond .ne 18, 3) := by decide +kernel
theorem dX8_writes_21 : decode cX8_writes 21 = .ok (.aload_n 0, 1) := by decide +kernel
theorem dX8_writes_22 : decode cX8_writes 22 = .ok (.getfield 59, 3) := by decide +kernel
theorem dX8_writes_25 : decode cX8_writes 25 = .ok (.aload_n 0, 1) := by decide +kernel
theorem dX8_writes_26 : decode cX8_writes 26 = .ok (.getfield 156, 3) := by decide +kernel
theorem dX8_writes_29 : decode cX8_writes 29 = .ok (.iaload, 1) := by decide +kernel
theorem dX8_writes_30 : decode cX8_writes 30 = .ok (.sipush 200, 3) := by decide +kernel
theorem dX8_writes_33 : decode cX8_writes 33 = .ok (.if_icmp .le 7, 3) := by decide +kernel
theorem dX8_writes_36 : decode cX8_writes 36 = .ok (.iconst 1, 1) := by decide +kernel
theorem dX8_writes_37 : decode cX8_writes 37 = .ok (.goto 4, 3) := by decide +kernel
theorem dX8_writes_40 : decode cX8_writes 40 = .ok (.iconst 0, 1) := by decide +kernel
theorem dX8_writes_41 : decode cX8_writes 41 = .ok (.putfield 159, 3) := by decide +kernel
theorem dX8_writes_44 : decode cX8_writes 44 = .ok (.return_, 1) := by decide +kernel
theorem dX8_notes_0 : decode cX8_notes 0 = .ok (.aload_n 0, 1) := by decide +kernel
theorem dX8_notes_1 : decode cX8_notes 1 = .ok (.getfield 163, 3) := by decide +kernel
theorem dX8_notes_4 : decode cX8_notes 4 = .ok (.bipush 60, 2) := by decide +kernel
theorem dX8_notes_6 : decode cX8_notes 6 = .ok (.if_icmp .ne 4, 3) := by decide +kernel
theorem dX8_notes_9 : decode cX8_notes 9 = .ok (.return_, 1) := by decide +kernel
theorem dX8_notes_10 : decode cX8_notes 10 = .ok (.aload_n 0, 1) := by decide +kernel
theorem dX8_notes_11 : decode cX8_notes 11 = .ok (.getfield 62, 3) := by decide +kernel
theorem dX8_notes_14 : decode cX8_notes 14 = .ok (.bipush 6, 2) := by decide +kernel
theorem dX8_notes_16 : decode cX8_notes 16 = .ok (.aload_n 0, 1) := by decide +kernel
theorem dX8_notes_17 : decode cX8_notes 17 = .ok (.getfield 163, 3) := by decide +kernel
theorem dX8_notes_20 : decode cX8_notes 20 = .ok (.imul, 1) := by decide +kernel
theorem dX8_notes_21 : decode cX8_notes 21 = .ok (.iload_n 1, 1) := by decide +kernel
theorem dX8_notes_22 : decode cX8_notes 22 = .ok (.iastore, 1) := by decide +kernel
theorem dX8_notes_23 : decode cX8_notes 23 = .ok (.aload_n 0, 1) := by decide +kernel
theorem dX8_notes_24 : decode cX8_notes 24 = .ok (.getfield 62, 3) := by decide +kernel
theorem dX8_notes_27 : decode cX8_notes 27 = .ok (.bipush 6, 2) := by decide +kernel
theorem dX8_notes_29 : decode cX8_notes 29 = .ok (.aload_n 0, 1) := by decide +kernel
theorem dX8_notes_30 : decode cX8_notes 30 = .ok (.getfield 163, 3) := by decide +kernel
theorem dX8_notes_33 : decode cX8_notes 33 = .ok (.imul, 1) := by decide +kernel
theorem dX8_notes_34 : decode cX8_notes 34 = .ok (.iconst 1, 1) := by decide +kernel
theorem dX8_notes_35 : decode cX8_notes 35 = .ok (.iadd, 1) := by decide +kernel
theorem dX8_notes_36 : decode cX8_notes 36 = .ok (.iload_n 2, 1) := by decide +kernel
theorem dX8_notes_37 : decode cX8_notes 37 = .ok (.iastore, 1) := by decide +kernel
theorem dX8_notes_38 : decode cX8_notes 38 = .ok (.aload_n 0, 1) := by decide +kernel
theorem dX8_notes_39 : decode cX8_notes 39 = .ok (.getfield 62, 3) := by decide +kernel
theorem dX8_notes_42 : decode cX8_notes 42 = .ok (.bipush 6, 2) := by decide +kernel
theorem dX8_notes_44 : decode cX8_notes 44 = .ok (.aload_n 0, 1) := by decide +kernel
theorem dX8_notes_45 : decode cX8_notes 45 = .ok (.getfield 163, 3) := by decide +kernel
theorem dX8_notes_48 : decode cX8_notes 48 = .ok (.imul, 1) := by decide +kernel
theorem dX8_notes_49 : decode cX8_notes 49 = .ok (.iconst 2, 1) := by decide +kernel
theorem dX8_notes_50 : decode cX8_notes 50 = .ok (.iadd, 1) := by decide +kernel
theorem dX8_notes_51 : decode cX8_notes 51 = .ok (.iload_n 3, 1) := by decide +kernel
theorem dX8_notes_52 : decode cX8_notes 52 = .ok (.iastore, 1) := by decide +kernel
theorem dX8_notes_53 : decode cX8_notes 53 = .ok (.aload_n 0, 1) := by decide +kernel
theorem dX8_notes_54 : decode cX8_notes 54 = .ok (.getfield 62, 3) := by decide +kernel
theorem dX8_notes_57 : decode cX8_notes 57 = .ok (.bipush 6, 2) := by decide +kernel
theorem dX8_notes_59 : decode cX8_notes 59 = .ok (.aload_n 0, 1) := by decide +kernel
theorem dX8_notes_60 : decode cX8_notes 60 = .ok (.getfield 163, 3) := by decide +kernel
theorem dX8_notes_63 : decode cX8_notes 63 = .ok (.imul, 1) := by decide +kernel
theorem dX8_notes_64 : decode cX8_notes 64 = .ok (.iconst 3, 1) := by decide +kernel
theorem dX8_notes_65 : decode cX8_notes 65 = .ok (.iadd, 1) := by decide +kernel
theorem dX8_notes_66 : decode cX8_notes 66 = .ok (.iload 4, 2) := by decide +kernel
theorem dX8_notes_68 : decode cX8_notes 68 = .ok (.iastore, 1) := by decide +kernel
theorem dX8_notes_69 : decode cX8_notes 69 = .ok (.aload_n 0, 1) := by decide +kernel
theorem dX8_notes_70 : decode cX8_notes 70 = .ok (.getfield 62, 3) := by decide +kernel
theorem dX8_notes_73 : decode cX8_notes 73 = .ok (.bipush 6, 2) := by decide +kernel
theorem dX8_notes_75 : decode cX8_notes 75 = .ok (.aload_n 0, 1) := by decide +kernel
theorem dX8_notes_76 : decode cX8_notes 76 = .ok (.getfield 163, 3) := by decide +kernel
theorem dX8_notes_79 : decode cX8_notes 79 = .ok (.imul, 1) := by decide +kernel
theorem dX8_notes_80 : decode cX8_notes 80 = .ok (.iconst 4, 1) := by decide +kernel
theorem dX8_notes_81 : decode cX8_notes 81 = .ok (.iadd, 1) := by decide +kernel
theorem dX8_notes_82 : decode cX8_notes 82 = .ok (.iload 5, 2) := by decide +kernel
theorem dX8_notes_84 : decode cX8_notes 84 = .ok (.iastore, 1) := by decide +kernel
theorem dX8_notes_85 : decode cX8_notes 85 = .ok (.aload_n 0, 1) := by decide +kernel
theorem dX8_notes_86 : decode cX8_notes 86 = .ok (.getfield 62, 3) := by decide +kernel
theorem dX8_notes_89 : decode cX8_notes 89 = .ok (.bipush 6, 2) := by decide +kernel
theorem dX8_notes_91 : decode cX8_notes 91 = .ok (.aload_n 0, 1) := by decide +kernel
theorem dX8_notes_92 : decode cX8_notes 92 = .ok (.getfield 163, 3) := by decide +kernel
theorem dX8_notes_95 : decode cX8_notes 95 = .ok (.imul, 1) := by decide +kernel
theorem dX8_notes_96 : decode cX8_notes 96 = .ok (.iconst 5, 1) := by decide +kernel
theorem dX8_notes_97 : decode cX8_notes 97 = .ok (.iadd, 1) := by decide +kernel
theorem dX8_notes_98 : decode cX8_notes 98 = .ok (.iload 6, 2) := by decide +kernel
theorem dX8_notes_100 : decode cX8_notes 100 = .ok (.iastore, 1) := by decide +kernel
theorem dX8_notes_101 : decode cX8_notes 101 = .ok (.aload_n 0, 1) := by decide +kernel
theorem dX8_notes_102 : decode cX8_notes 102 = .ok (.dup, 1) := by decide +kernel
theorem dX8_notes_103 : decode cX8_notes 103 = .ok (.getfield 163, 3) := by decide +kernel
theorem dX8_notes_106 : decode cX8_notes 106 = .ok (.iconst 1, 1) := by decide +kernel
theorem dX8_notes_107 : decode cX8_notes 107 = .ok (.iadd, 1) := by decide +kernel
theorem dX8_notes_108 : decode cX8_notes 108 = .ok (.putfield 163, 3) := by decide +kernel
theorem dX8_notes_111 : decode cX8_notes 111 = .ok (.return_, 1) := by decide +kernel
theorem dX8_isOpen_0 : decode cX8_isOpen 0 = .ok (.iconst 0, 1) := by decide +kernel
theorem dX8_isOpen_1 : decode cX8_isOpen 1 = .ok (.istore_n 2, 1) := by decide +kernel
theorem dX8_isOpen_2 : decode cX8_isOpen 2 = .ok (.iconst 1, 1) := by decide +kernel
theorem dX8_isOpen_3 : decode cX8_isOpen 3 = .ok (.istore_n 3, 1) := by decide +kernel
theorem dX8_isOpen_4 : decode cX8_isOpen 4 = .ok (.iload_n 3, 1) := by decide +kernel
theorem dX8_isOpen_5 : decode cX8_isOpen 5 = .ok (.aload_n 0, 1) := by decide +kernel
theorem dX8_isOpen_6 : decode cX8_isOpen 6 = .ok (.getfield 166, 3) := by decide +kernel
theorem dX8_isOpen_9 : decode cX8_isOpen 9 = .ok (.if_icmp .gt 29, 3) := by decide +kernel
theorem dX8_isOpen_12 : decode cX8_isOpen 12 = .ok (.iload_n 2, 1) := by decide +kernel
theorem dX8_isOpen_13 : decode cX8_isOpen 13 = .ok (.ifCond .ne 13, 3) := by decide +kernel
theorem dX8_isOpen_16 : decode cX8_isOpen 16 = .ok (.aload_n 0, 1) := by decide +kernel
theorem dX8_isOpen_17 : decode cX8_isOpen 17 = .ok (.getfield 29, 3) := by decide +kernel
theorem dX8_isOpen_20 : decode cX8_isOpen 20 = .ok (.iload_n 3, 1) := by decide +kernel
theorem dX8_isOpen_21 : decode cX8_isOpen 21 = .ok (.iaload, 1) := by decide +kernel
theorem dX8_isOpen_22 : decode cX8_isOpen 22 = .ok (.iload_n 1, 1) := by decide +kernel
theorem dX8_isOpen_23 : decode cX8_isOpen 23 = .ok (.if_icmp .ne 7, 3) := by decide +kernel
theorem dX8_isOpen_26 : decode cX8_isOpen 26 = .ok (.iconst 1, 1) := by decide +kernel
theorem dX8_isOpen_27 : decode cX8_isOpen 27 = .ok (.goto 4, 3) := by decide +kernel
theorem dX8_isOpen_30 : decode cX8_isOpen 30 = .ok (.iconst 0, 1) := by decide +kernel
theorem dX8_isOpen_31 : decode cX8_isOpen 31 = .ok (.istore_n 2, 1) := by decide +kernel
theorem dX8_isOpen_32 : decode cX8_isOpen 32 = .ok (.iinc 3 1, 3) := by decide +kernel
theorem dX8_isOpen_35 : decode cX8_isOpen 35 = .ok (.goto (-31), 3) := by decide +kernel
theorem dX8_isOpen_38 : decode cX8_isOpen 38 = .ok (.iload_n 2, 1) := by decide +kernel
theorem dX8_isOpen_39 : decode cX8_isOpen 39 = .ok (.ireturn, 1) := by decide +kernel
theorem dX8_opens_0 : decode cX8_opens 0 = .ok (.aload_n 0, 1) := by decide +kernel
theorem dX8_opens_1 : decode cX8_opens 1 = .ok (.dup, 1) := by decide +kernel
theorem dX8_opens_2 : decode cX8_opens 2 = .ok (.getfield 166, 3) := by decide +kernel
theorem dX8_opens_5 : decode cX8_opens 5 = .ok (.iconst 1, 1) := by decide +kernel
theorem dX8_opens_6 : decode cX8_opens 6 = .ok (.iadd, 1) := by decide +kernel
theorem dX8_opens_7 : decode cX8_opens 7 = .ok (.putfield 166, 3) := by decide +kernel
theorem dX8_opens_10 : decode cX8_opens 10 = .ok (.aload_n 0, 1) := by decide +kernel
theorem dX8_opens_11 : decode cX8_opens 11 = .ok (.getfield 29, 3) := by decide +kernel
theorem dX8_opens_14 : decode cX8_opens 14 = .ok (.aload_n 0, 1) := by decide +kernel
theorem dX8_opens_15 : decode cX8_opens 15 = .ok (.getfield 166, 3) := by decide +kernel
theorem dX8_opens_18 : decode cX8_opens 18 = .ok (.iload_n 1, 1) := by decide +kernel
theorem dX8_opens_19 : decode cX8_opens 19 = .ok (.iastore, 1) := by decide +kernel
theorem dX8_opens_20 : decode cX8_opens 20 = .ok (.aload_n 0, 1) := by decide +kernel
theorem dX8_opens_21 : decode cX8_opens 21 = .ok (.getfield 32, 3) := by decide +kernel
theorem dX8_opens_24 : decode cX8_opens 24 = .ok (.aload_n 0, 1) := by decide +kernel
theorem dX8_opens_25 : decode cX8_opens 25 = .ok (.getfield 166, 3) := by decide +kernel
theorem dX8_opens_28 : decode cX8_opens 28 = .ok (.iconst 0, 1) := by decide +kernel
theorem dX8_opens_29 : decode cX8_opens 29 = .ok (.iastore, 1) := by decide +kernel
theorem dX8_opens_30 : decode cX8_opens 30 = .ok (.aload_n 0, 1) := by decide +kernel
theorem dX8_opens_31 : decode cX8_opens 31 = .ok (.getfield 35, 3) := by decide +kernel
theorem dX8_opens_34 : decode cX8_opens 34 = .ok (.aload_n 0, 1) := by decide +kernel
theorem dX8_opens_35 : decode cX8_opens 35 = .ok (.getfield 166, 3) := by decide +kernel
theorem dX8_opens_38 : decode cX8_opens 38 = .ok (.iconst 0, 1) := by decide +kernel
theorem dX8_opens_39 : decode cX8_opens 39 = .ok (.iastore, 1) := by decide +kernel
theorem dX8_opens_40 : decode cX8_opens 40 = .ok (.aload_n 0, 1) := by decide +kernel
theorem dX8_opens_41 : decode cX8_opens 41 = .ok (.getfield 44, 3) := by decide +kernel
theorem dX8_opens_44 : decode cX8_opens 44 = .ok (.aload_n 0, 1) := by decide +kernel
theorem dX8_opens_45 : decode cX8_opens 45 = .ok (.getfield 166, 3) := by decide +kernel
theorem dX8_opens_48 : decode cX8_opens 48 = .ok (.aload_n 0, 1) := by decide +kernel
theorem dX8_opens_49 : decode cX8_opens 49 = .ok (.getfield 59, 3) := by decide +kernel
theorem dX8_opens_52 : decode cX8_opens 52 = .ok (.aload_n 0, 1) := by decide +kernel
theorem dX8_opens_53 : decode cX8_opens 53 = .ok (.getfield 156, 3) := by decide +kernel
theorem dX8_opens_56 : decode cX8_opens 56 = .ok (.iaload, 1) := by decide +kernel
theorem dX8_opens_57 : decode cX8_opens 57 = .ok (.iastore, 1) := by decide +kernel
theorem dX8_opens_58 : decode cX8_opens 58 = .ok (.aload_n 0, 1) := by decide +kernel
theorem dX8_opens_59 : decode cX8_opens 59 = .ok (.getfield 38, 3) := by decide +kernel
theorem dX8_opens_62 : decode cX8_opens 62 = .ok (.aload_n 0, 1) := by decide +kernel
theorem dX8_opens_63 : decode cX8_opens 63 = .ok (.getfield 166, 3) := by decide +kernel
theorem dX8_opens_66 : decode cX8_opens 66 = .ok (.iconst 0, 1) := by decide +kernel
theorem dX8_opens_67 : decode cX8_opens 67 = .ok (.iastore, 1) := by decide +kernel
theorem dX8_opens_68 : decode cX8_opens 68 = .ok (.aload_n 0, 1) := by decide +kernel
theorem dX8_opens_69 : decode cX8_opens 69 = .ok (.getfield 41, 3) := by decide +kernel
theorem dX8_opens_72 : decode cX8_opens 72 = .ok (.aload_n 0, 1) := by decide +kernel
theorem dX8_opens_73 : decode cX8_opens 73 = .ok (.getfield 166, 3) := by decide +kernel
theorem dX8_opens_76 : decode cX8_opens 76 = .ok (.iconst 0, 1) := by decide +kernel
theorem dX8_opens_77 : decode cX8_opens 77 = .ok (.iastore, 1) := by decide +kernel
theorem dX8_opens_78 : decode cX8_opens 78 = .ok (.aload_n 0, 1) := by decide +kernel
theorem dX8_opens_79 : decode cX8_opens 79 = .ok (.dup, 1) := by decide +kernel
theorem dX8_opens_80 : decode cX8_opens 80 = .ok (.getfield 169, 3) := by decide +kernel
theorem dX8_opens_83 : decode cX8_opens 83 = .ok (.iconst 1, 1) := by decide +kernel
theorem dX8_opens_84 : decode cX8_opens 84 = .ok (.iadd, 1) := by decide +kernel
theorem dX8_opens_85 : decode cX8_opens 85 = .ok (.putfield 169, 3) := by decide +kernel
theorem dX8_opens_88 : decode cX8_opens 88 = .ok (.aload_n 0, 1) := by decide +kernel
theorem dX8_opens_89 : decode cX8_opens 89 = .ok (.aload_n 0, 1) := by decide +kernel
theorem dX8_opens_90 : decode cX8_opens 90 = .ok (.getfield 166, 3) := by decide +kernel
theorem dX8_opens_93 : decode cX8_opens 93 = .ok (.aload_n 0, 1) := by decide +kernel
theorem dX8_opens_94 : decode cX8_opens 94 = .ok (.getfield 172, 3) := by decide +kernel
theorem dX8_opens_97 : decode cX8_opens 97 = .ok (.if_icmp .le 10, 3) := by decide +kernel
theorem dX8_opens_100 : decode cX8_opens 100 = .ok (.aload_n 0, 1) := by decide +kernel
theorem dX8_opens_101 : decode cX8_opens 101 = .ok (.getfield 166, 3) := by decide +kernel
theorem dX8_opens_104 : decode cX8_opens 104 = .ok (.goto 7, 3) := by decide +kernel
theorem dX8_opens_107 : decode cX8_opens 107 = .ok (.aload_n 0, 1) := by decide +kernel
theorem dX8_opens_108 : decode cX8_opens 108 = .ok (.getfield 172, 3) := by decide +kernel
theorem dX8_opens_111 : decode cX8_opens 111 = .ok (.putfield 172, 3) := by decide +kernel
theorem dX8_opens_114 : decode cX8_opens 114 = .ok (.aload_n 0, 1) := by decide +kernel
theorem dX8_opens_115 : decode cX8_opens 115 = .ok (.aload_n 0, 1) := by decide +kernel
theorem dX8_opens_116 : decode cX8_opens 116 = .ok (.getfield 159, 3) := by decide +kernel
theorem dX8_opens_119 : decode cX8_opens 119 = .ok (.ifCond .ne 12, 3) := by decide +kernel
theorem dX8_opens_122 : decode cX8_opens 122 = .ok (.aload_n 0, 1) := by decide +kernel
theorem dX8_opens_123 : decode cX8_opens 123 = .ok (.getfield 169, 3) := by decide +kernel
theorem dX8_opens_126 : decode cX8_opens 126 = .ok (.bipush 60, 2) := by decide +kernel
theorem dX8_opens_128 : decode cX8_opens 128 = .ok (.if_icmp .le 7, 3) := by decide +kernel
theorem dX8_opens_131 : decode cX8_opens 131 = .ok (.iconst 1, 1) := by decide +kernel
theorem dX8_opens_132 : decode cX8_opens 132 = .ok (.goto 4, 3) := by decide +kernel
theorem dX8_opens_135 : decode cX8_opens 135 = .ok (.iconst 0, 1) := by decide +kernel
theorem dX8_opens_136 : decode cX8_opens 136 = .ok (.putfield 159, 3) := by decide +kernel
theorem dX8_opens_139 : decode cX8_opens 139 = .ok (.return_, 1) := by decide +kernel
theorem dX8_goesOn_0 : decode cX8_goesOn 0 = .ok (.iconst 0, 1) := by decide +kernel
theorem dX8_goesOn_1 : decode cX8_goesOn 1 = .ok (.istore_n 3, 1) := by decide +kernel
theorem dX8_goesOn_2 : decode cX8_goesOn 2 = .ok (.iconst 0, 1) := by decide +kernel
theorem dX8_goesOn_3 : decode cX8_goesOn 3 = .ok (.istore 4, 2) := by decide +kernel
theorem dX8_goesOn_5 : decode cX8_goesOn 5 = .ok (.iload 4, 2) := by decide +kernel
theorem dX8_goesOn_7 : decode cX8_goesOn 7 = .ok (.iload_n 2, 1) := by decide +kernel
theorem dX8_goesOn_8 : decode cX8_goesOn 8 = .ok (.if_icmp .ge 27, 3) := by decide +kernel
theorem dX8_goesOn_11 : decode cX8_goesOn 11 = .ok (.iload_n 3, 1) := by decide +kernel
theorem dX8_goesOn_12 : decode cX8_goesOn 12 = .ok (.aload_n 0, 1) := by decide +kernel
theorem dX8_goesOn_13 : decode cX8_goesOn 13 = .ok (.getfield 56, 3) := by decide +kernel
theorem dX8_goesOn_16 : decode cX8_goesOn 16 = .ok (.bipush 6, 2) := by decide +kernel
theorem dX8_goesOn_18 : decode cX8_goesOn 18 = .ok (.aload_n 0, 1) := by decide +kernel
theorem dX8_goesOn_19 : decode cX8_goesOn 19 = .ok (.getfield 156, 3) := by decide +kernel
theorem dX8_goesOn_22 : decode cX8_goesOn 22 = .ok (.imul, 1) := by decide +kernel
theorem dX8_goesOn_23 : decode cX8_goesOn 23 = .ok (.iload 4, 2) := by decide +kernel
theorem dX8_goesOn_25 : decode cX8_goesOn 25 = .ok (.iadd, 1) := by decide +kernel
theorem dX8_goesOn_26 : decode cX8_goesOn 26 = .ok (.iaload, 1) := by decide +kernel
theorem dX8_goesOn_27 : decode cX8_goesOn 27 = .ok (.iadd, 1) := by decide +kernel
theorem dX8_goesOn_28 : decode cX8_goesOn 28 = .ok (.istore_n 3, 1) := by decide +kernel
theorem dX8_goesOn_29 : decode cX8_goesOn 29 = .ok (.iinc 4 1, 3) := by decide +kernel
theorem dX8_goesOn_32 : decode cX8_goesOn 32 = .ok (.goto (-27), 3) := by decide +kernel
theorem dX8_goesOn_35 : decode cX8_goesOn 35 = .ok (.aload_n 0, 1) := by decide +kernel
theorem dX8_goesOn_36 : decode cX8_goesOn 36 = .ok (.iload_n 1, 1) := by decide +kernel
theorem dX8_goesOn_37 : decode cX8_goesOn 37 = .ok (.invokevirtual 112, 3) := by decide +kernel
theorem dX8_goesOn_40 : decode cX8_goesOn 40 = .ok (.ifCond .ne 7, 3) := by decide +kernel
theorem dX8_goesOn_43 : decode cX8_goesOn 43 = .ok (.iconst 1, 1) := by decide +kernel
theorem dX8_goesOn_44 : decode cX8_goesOn 44 = .ok (.goto 35, 3) := by decide +kernel
theorem dX8_goesOn_47 : decode cX8_goesOn 47 = .ok (.aload_n 0, 1) := by decide +kernel
theorem dX8_goesOn_48 : decode cX8_goesOn 48 = .ok (.iload_n 1, 1) := by decide +kernel
theorem dX8_goesOn_49 : decode cX8_goesOn 49 = .ok (.invokevirtual 175, 3) := by decide +kernel
theorem dX8_goesOn_52 : decode cX8_goesOn 52 = .ok (.ifCond .eq 7, 3) := by decide +kernel
theorem dX8_goesOn_55 : decode cX8_goesOn 55 = .ok (.iconst 2, 1) := by decide +kernel
theorem dX8_goesOn_56 : decode cX8_goesOn 56 = .ok (.goto 23, 3) := by decide +kernel
theorem dX8_goesOn_59 : decode cX8_goesOn 59 = .ok (.aload_n 0, 1) := by decide +kernel
theorem dX8_goesOn_60 : decode cX8_goesOn 60 = .ok (.getfield 166, 3) := by decide +kernel
theorem dX8_goesOn_63 : decode cX8_goesOn 63 = .ok (.aload_n 0, 1) := by decide +kernel
theorem dX8_goesOn_64 : decode cX8_goesOn 64 = .ok (.getfield 7, 3) := by decide +kernel
theorem dX8_goesOn_67 : decode cX8_goesOn 67 = .ok (.sipush 1586, 3) := by decide +kernel
theorem dX8_goesOn_70 : decode cX8_goesOn 70 = .ok (.iaload, 1) := by decide +kernel
theorem dX8_goesOn_71 : decode cX8_goesOn 71 = .ok (.if_icmp .ne 7, 3) := by decide +kernel
theorem dX8_goesOn_74 : decode cX8_goesOn 74 = .ok (.iconst 3, 1) := by decide +kernel
theorem dX8_goesOn_75 : decode cX8_goesOn 75 = .ok (.goto 4, 3) := by decide +kernel
theorem dX8_goesOn_78 : decode cX8_goesOn 78 = .ok (.iconst 0, 1) := by decide +kernel
theorem dX8_goesOn_79 : decode cX8_goesOn 79 = .ok (.istore 4, 2) := by decide +kernel
theorem dX8_goesOn_81 : decode cX8_goesOn 81 = .ok (.iload 4, 2) := by decide +kernel
theorem dX8_goesOn_83 : decode cX8_goesOn 83 = .ok (.ifCond .le 23, 3) := by decide +kernel
theorem dX8_goesOn_86 : decode cX8_goesOn 86 = .ok (.aload_n 0, 1) := by decide +kernel
theorem dX8_goesOn_87 : decode cX8_goesOn 87 = .ok (.iconst 1, 1) := by decide +kernel
theorem dX8_goesOn_88 : decode cX8_goesOn 88 = .ok (.invokevirtual 178, 3) := by decide +kernel
theorem dX8_goesOn_91 : decode cX8_goesOn 91 = .ok (.aload_n 0, 1) := by decide +kernel
theorem dX8_goesOn_92 : decode cX8_goesOn 92 = .ok (.iload_n 1, 1) := by decide +kernel
theorem dX8_goesOn_93 : decode cX8_goesOn 93 = .ok (.iload 4, 2) := by decide +kernel
theorem dX8_goesOn_95 : decode cX8_goesOn 95 = .ok (.aload_n 0, 1) := by decide +kernel
theorem dX8_goesOn_96 : decode cX8_goesOn 96 = .ok (.getfield 166, 3) := by decide +kernel
theorem dX8_goesOn_99 : decode cX8_goesOn 99 = .ok (.iload_n 2, 1) := by decide +kernel
theorem dX8_goesOn_100 : decode cX8_goesOn 100 = .ok (.iconst 1, 1) := by decide +kernel
theorem dX8_goesOn_101 : decode cX8_goesOn 101 = .ok (.iload_n 3, 1) := by decide +kernel
theorem dX8_goesOn_102 : decode cX8_goesOn 102 = .ok (.invokevirtual 181, 3) := by decide +kernel
theorem dX8_goesOn_105 : decode cX8_goesOn 105 = .ok (.return_, 1) := by decide +kernel
theorem dX8_goesOn_106 : decode cX8_goesOn 106 = .ok (.aload_n 0, 1) := by decide +kernel
theorem dX8_goesOn_107 : decode cX8_goesOn 107 = .ok (.iload_n 1, 1) := by decide +kernel
theorem dX8_goesOn_108 : decode cX8_goesOn 108 = .ok (.invokevirtual 185, 3) := by decide +kernel
theorem dX8_goesOn_111 : decode cX8_goesOn 111 = .ok (.aload_n 0, 1) := by decide +kernel
theorem dX8_goesOn_112 : decode cX8_goesOn 112 = .ok (.getfield 38, 3) := by decide +kernel
theorem dX8_goesOn_115 : decode cX8_goesOn 115 = .ok (.aload_n 0, 1) := by decide +kernel
theorem dX8_goesOn_116 : decode cX8_goesOn 116 = .ok (.getfield 166, 3) := by decide +kernel
theorem dX8_goesOn_119 : decode cX8_goesOn 119 = .ok (.iload_n 2, 1) := by decide +kernel
theorem dX8_goesOn_120 : decode cX8_goesOn 120 = .ok (.iastore, 1) := by decide +kernel
theorem dX8_goesOn_121 : decode cX8_goesOn 121 = .ok (.aload_n 0, 1) := by decide +kernel
theorem dX8_goesOn_122 : decode cX8_goesOn 122 = .ok (.getfield 41, 3) := by decide +kernel
theorem dX8_goesOn_125 : decode cX8_goesOn 125 = .ok (.aload_n 0, 1) := by decide +kernel
theorem dX8_goesOn_126 : decode cX8_goesOn 126 = .ok (.getfield 166, 3) := by decide +kernel
theorem dX8_goesOn_129 : decode cX8_goesOn 129 = .ok (.iload_n 3, 1) := by decide +kernel
theorem dX8_goesOn_130 : decode cX8_goesOn 130 = .ok (.iastore, 1) := by decide +kernel
theorem dX8_goesOn_131 : decode cX8_goesOn 131 = .ok (.iconst 0, 1) := by decide +kernel
theorem dX8_goesOn_132 : decode cX8_goesOn 132 = .ok (.istore 5, 2) := by decide +kernel
theorem dX8_goesOn_134 : decode cX8_goesOn 134 = .ok (.iload 5, 2) := by decide +kernel
theorem dX8_goesOn_136 : decode cX8_goesOn 136 = .ok (.iload_n 2, 1) := by decide +kernel
theorem dX8_goesOn_137 : decode cX8_goesOn 137 = .ok (.if_icmp .ge 39, 3) := by decide +kernel
theorem dX8_goesOn_140 : decode cX8_goesOn 140 = .ok (.aload_n 0, 1) := by decide +kernel
theorem dX8_goesOn_141 : decode cX8_goesOn 141 = .ok (.getfield 47, 3) := by decide +kernel
theorem dX8_goesOn_144 : decode cX8_goesOn 144 = .ok (.bipush 6, 2) := by decide +kernel
theorem dX8_goesOn_146 : decode cX8_goesOn 146 = .ok (.aload_n 0, 1) := by decide +kernel
theorem dX8_goesOn_147 : decode cX8_goesOn 147 = .ok (.getfield 166, 3) := by decide +kernel
theorem dX8_goesOn_150 : decode cX8_goesOn 150 = .ok (.imul, 1) := by decide +kernel
theorem dX8_goesOn_151 : decode cX8_goesOn 151 = .ok (.iload 5, 2) := by decide +kernel
theorem dX8_goesOn_153 : decode cX8_goesOn 153 = .ok (.iadd, 1) := by decide +kernel
theorem dX8_goesOn_154 : decode cX8_goesOn 154 = .ok (.aload_n 0, 1) := by decide +kernel
theorem dX8_goesOn_155 : decode cX8_goesOn 155 = .ok (.getfield 56, 3) := by decide +kernel
theorem dX8_goesOn_158 : decode cX8_goesOn 158 = .ok (.bipush 6, 2) := by decide +kernel
theorem dX8_goesOn_160 : decode cX8_goesOn 160 = .ok (.aload_n 0, 1) := by decide +kernel
theorem dX8_goesOn_161 : decode cX8_goesOn 161 = .ok (.getfield 156, 3) := by decide +kernel
theorem dX8_goesOn_164 : decode cX8_goesOn 164 = .ok (.imul, 1) := by decide +kernel
theorem dX8_goesOn_165 : decode cX8_goesOn 165 = .ok (.iload 5, 2) := by decide +kernel
theorem dX8_goesOn_167 : decode cX8_goesOn 167 = .ok (.iadd, 1) := by decide +kernel
theorem dX8_goesOn_168 : decode cX8_goesOn 168 = .ok (.iaload, 1) := by decide +kernel
theorem dX8_goesOn_169 : decode cX8_goesOn 169 = .ok (.iastore, 1) := by decide +kernel
theorem dX8_goesOn_170 : decode cX8_goesOn 170 = .ok (.iinc 5 1, 3) := by decide +kernel
theorem dX8_goesOn_173 : decode cX8_goesOn 173 = .ok (.goto (-39), 3) := by decide +kernel
theorem dX8_goesOn_176 : decode cX8_goesOn 176 = .ok (.return_, 1) := by decide +kernel
theorem dX8_filling_0 : decode cX8_filling 0 = .ok (.aload_n 0, 1) := by decide +kernel
theorem dX8_filling_1 : decode cX8_filling 1 = .ok (.getfield 35, 3) := by decide +kernel
theorem dX8_filling_4 : decode cX8_filling 4 = .ok (.aload_n 0, 1) := by decide +kernel
theorem dX8_filling_5 : decode cX8_filling 5 = .ok (.getfield 166, 3) := by decide +kernel
theorem dX8_filling_8 : decode cX8_filling 8 = .ok (.iaload, 1) := by decide +kernel
theorem dX8_filling_9 : decode cX8_filling 9 = .ok (.istore_n 1, 1) := by decide +kernel
theorem dX8_filling_10 : decode cX8_filling 10 = .ok (.aload_n 0, 1) := by decide +kernel
theorem dX8_filling_11 : decode cX8_filling 11 = .ok (.getfield 35, 3) := by decide +kernel
theorem dX8_filling_14 : decode cX8_filling 14 = .ok (.aload_n 0, 1) := by decide +kernel
theorem dX8_filling_15 : decode cX8_filling 15 = .ok (.getfield 166, 3) := by decide +kernel
theorem dX8_filling_18 : decode cX8_filling 18 = .ok (.dup2, 1) := by decide +kernel
theorem dX8_filling_19 : decode cX8_filling 19 = .ok (.iaload, 1) := by decide +kernel
theorem dX8_filling_20 : decode cX8_filling 20 = .ok (.iconst 1, 1) := by decide +kernel
theorem dX8_filling_21 : decode cX8_filling 21 = .ok (.iadd, 1) := by decide +kernel
theorem dX8_filling_22 : decode cX8_filling 22 = .ok (.iastore, 1) := by decide +kernel
theorem dX8_filling_23 : decode cX8_filling 23 = .ok (.aload_n 0, 1) := by decide +kernel
theorem dX8_filling_24 : decode cX8_filling 24 = .ok (.getfield 166, 3) := by decide +kernel
theorem dX8_filling_27 : decode cX8_filling 27 = .ok (.iconst 1, 1) := by decide +kernel
theorem dX8_filling_28 : decode cX8_filling 28 = .ok (.if_icmp .ne 16, 3) := by decide +kernel
theorem dX8_filling_31 : decode cX8_filling 31 = .ok (.aload_n 0, 1) := by decide +kernel
theorem dX8_filling_32 : decode cX8_filling 32 = .ok (.getfield 188, 3) := by decide +kernel
theorem dX8_filling_35 : decode cX8_filling 35 = .ok (.iconst (-1), 1) := by decide +kernel
theorem dX8_filling_36 : decode cX8_filling 36 = .ok (.if_icmp .eq 8, 3) := by decide +kernel
theorem dX8_filling_39 : decode cX8_filling 39 = .ok (.aload_n 0, 1) := by decide +kernel
theorem dX8_filling_40 : decode cX8_filling 40 = .ok (.getfield 188, 3) := by decide +kernel
theorem dX8_filling_43 : decode cX8_filling 43 = .ok (.ireturn, 1) := by decide +kernel
theorem dX8_filling_44 : decode cX8_filling 44 = .ok (.aload_n 0, 1) := by decide +kernel
theorem dX8_filling_45 : decode cX8_filling 45 = .ok (.getfield 166, 3) := by decide +kernel
theorem dX8_filling_48 : decode cX8_filling 48 = .ok (.ifCond .ne 7, 3) := by decide +kernel
theorem dX8_filling_51 : decode cX8_filling 51 = .ok (.iconst 1, 1) := by decide +kernel
theorem dX8_filling_52 : decode cX8_filling 52 = .ok (.goto 34, 3) := by decide +kernel
theorem dX8_filling_55 : decode cX8_filling 55 = .ok (.iload_n 1, 1) := by decide +kernel
theorem dX8_filling_56 : decode cX8_filling 56 = .ok (.aload_n 0, 1) := by decide +kernel
theorem dX8_filling_57 : decode cX8_filling 57 = .ok (.getfield 38, 3) := by decide +kernel
theorem dX8_filling_60 : decode cX8_filling 60 = .ok (.aload_n 0, 1) := by decide +kernel
theorem dX8_filling_61 : decode cX8_filling 61 = .ok (.getfield 166, 3) := by decide +kernel
theorem dX8_filling_64 : decode cX8_filling 64 = .ok (.iaload, 1) := by decide +kernel
theorem dX8_filling_65 : decode cX8_filling 65 = .ok (.if_icmp .ge 20, 3) := by decide +kernel
theorem dX8_filling_68 : decode cX8_filling 68 = .ok (.aload_n 0, 1) := by decide +kernel
theorem dX8_filling_69 : decode cX8_filling 69 = .ok (.getfield 47, 3) := by decide +kernel
theorem dX8_filling_72 : decode cX8_filling 72 = .ok (.bipush 6, 2) := by decide +kernel
theorem dX8_filling_74 : decode cX8_filling 74 = .ok (.aload_n 0, 1) := by decide +kernel
theorem dX8_filling_75 : decode cX8_filling 75 = .ok (.getfield 166, 3) := by decide +kernel
theorem dX8_filling_78 : decode cX8_filling 78 = .ok (.imul, 1) := by decide +kernel
theorem dX8_filling_79 : decode cX8_filling 79 = .ok (.iload_n 1, 1) := by decide +kernel
theorem dX8_filling_80 : decode cX8_filling 80 = .ok (.iadd, 1) := by decide +kernel
theorem dX8_filling_81 : decode cX8_filling 81 = .ok (.iaload, 1) := by decide +kernel
theorem dX8_filling_82 : decode cX8_filling 82 = .ok (.goto 4, 3) := by decide +kernel
theorem dX8_filling_85 : decode cX8_filling 85 = .ok (.iconst 0, 1) := by decide +kernel
theorem dX8_filling_86 : decode cX8_filling 86 = .ok (.ireturn, 1) := by decide +kernel
theorem dX8_reads_0 : decode cX8_reads 0 = .ok (.aload_n 0, 1) := by decide +kernel
theorem dX8_reads_1 : decode cX8_reads 1 = .ok (.aload_n 0, 1) := by decide +kernel
theorem dX8_reads_2 : decode cX8_reads 2 = .ok (.getfield 29, 3) := by decide +kernel
theorem dX8_reads_5 : decode cX8_reads 5 = .ok (.aload_n 0, 1) := by decide +kernel
theorem dX8_reads_6 : decode cX8_reads 6 = .ok (.getfield 166, 3) := by decide +kernel
theorem dX8_reads_9 : decode cX8_reads 9 = .ok (.iaload, 1) := by decide +kernel
theorem dX8_reads_10 : decode cX8_reads 10 = .ok (.aload_n 0, 1) := by decide +kernel
theorem dX8_reads_11 : decode cX8_reads 11 = .ok (.getfield 32, 3) := by decide +kernel
theorem dX8_reads_14 : decode cX8_reads 14 = .ok (.aload_n 0, 1) := by decide +kernel
theorem dX8_reads_15 : decode cX8_reads 15 = .ok (.getfield 166, 3) := by decide +kernel
theorem dX8_reads_18 : decode cX8_reads 18 = .ok (.iaload, 1) := by decide +kernel
theorem dX8_reads_19 : decode cX8_reads 19 = .ok (.invokevirtual 135, 3) := by decide +kernel
theorem dX8_reads_22 : decode cX8_reads 22 = .ok (.istore_n 1, 1) := by decide +kernel
theorem dX8_reads_23 : decode cX8_reads 23 = .ok (.aload_n 0, 1) := by decide +kernel
theorem dX8_reads_24 : decode cX8_reads 24 = .ok (.getfield 32, 3) := by decide +kernel
theorem dX8_reads_27 : decode cX8_reads 27 = .ok (.aload_n 0, 1) := by decide +kernel
theorem dX8_reads_28 : decode cX8_reads 28 = .ok (.getfield 166, 3) := by decide +kernel
theorem dX8_reads_31 : decode cX8_reads 31 = .ok (.dup2, 1) := by decide +kernel
theorem dX8_reads_32 : decode cX8_reads 32 = .ok (.iaload, 1) := by decide +kernel
theorem dX8_reads_33 : decode cX8_reads 33 = .ok (.iconst 1, 1) := by decide +kernel
theorem dX8_reads_34 : decode cX8_reads 34 = .ok (.iadd, 1) := by decide +kernel
theorem dX8_reads_35 : decode cX8_reads 35 = .ok (.iastore, 1) := by decide +kernel
theorem dX8_reads_36 : decode cX8_reads 36 = .ok (.iload_n 1, 1) := by decide +kernel
theorem dX8_reads_37 : decode cX8_reads 37 = .ok (.invokestatic 125, 3) := by decide +kernel
theorem dX8_reads_40 : decode cX8_reads 40 = .ok (.ifCond .eq 136, 3) := by decide +kernel
theorem dX8_reads_43 : decode cX8_reads 43 = .ok (.aload_n 0, 1) := by decide +kernel
theorem dX8_reads_44 : decode cX8_reads 44 = .ok (.getfield 32, 3) := by decide +kernel
theorem dX8_reads_47 : decode cX8_reads 47 = .ok (.aload_n 0, 1) := by decide +kernel
theorem dX8_reads_48 : decode cX8_reads 48 = .ok (.getfield 166, 3) := by decide +kernel
theorem dX8_reads_51 : decode cX8_reads 51 = .ok (.iaload, 1) := by decide +kernel
theorem dX8_reads_52 : decode cX8_reads 52 = .ok (.aload_n 0, 1) := by decide +kernel
theorem dX8_reads_53 : decode cX8_reads 53 = .ok (.aload_n 0, 1) := by decide +kernel
theorem dX8_reads_54 : decode cX8_reads 54 = .ok (.getfield 29, 3) := by decide +kernel
theorem dX8_reads_57 : decode cX8_reads 57 = .ok (.aload_n 0, 1) := by decide +kernel
theorem dX8_reads_58 : decode cX8_reads 58 = .ok (.getfield 166, 3) := by decide +kernel
theorem dX8_reads_61 : decode cX8_reads 61 = .ok (.iaload, 1) := by decide +kernel
theorem dX8_reads_62 : decode cX8_reads 62 = .ok (.invokevirtual 191, 3) := by decide +kernel
theorem dX8_reads_65 : decode cX8_reads 65 = .ok (.if_icmp .ge 34, 3) := by decide +kernel
theorem dX8_reads_68 : decode cX8_reads 68 = .ok (.aload_n 0, 1) := by decide +kernel
theorem dX8_reads_69 : decode cX8_reads 69 = .ok (.aload_n 0, 1) := by decide +kernel
theorem dX8_reads_70 : decode cX8_reads 70 = .ok (.getfield 29, 3) := by decide +kernel
theorem dX8_reads_73 : decode cX8_reads 73 = .ok (.aload_n 0, 1) := by decide +kernel
theorem dX8_reads_74 : decode cX8_reads 74 = .ok (.getfield 166, 3) := by decide +kernel
theorem dX8_reads_77 : decode cX8_reads 77 = .ok (.iaload, 1) := by decide +kernel
theorem dX8_reads_78 : decode cX8_reads 78 = .ok (.aload_n 0, 1) := by decide +kernel
theorem dX8_reads_79 : decode cX8_reads 79 = .ok (.getfield 32, 3) := by decide +kernel
theorem dX8_reads_82 : decode cX8_reads 82 = .ok (.aload_n 0, 1) := by decide +kernel
theorem dX8_reads_83 : decode cX8_reads 83 = .ok (.getfield 166, 3) := by decide +kernel
theorem dX8_reads_86 : decode cX8_reads 86 = .ok (.iaload, 1) := by decide +kernel
theorem dX8_reads_87 : decode cX8_reads 87 = .ok (.invokevirtual 135, 3) := by decide +kernel
theorem dX8_reads_90 : decode cX8_reads 90 = .ok (.bipush 40, 2) := by decide +kernel
theorem dX8_reads_92 : decode cX8_reads 92 = .ok (.if_icmp .ne 7, 3) := by decide +kernel
theorem dX8_reads_95 : decode cX8_reads 95 = .ok (.iconst 1, 1) := by decide +kernel
theorem dX8_reads_96 : decode cX8_reads 96 = .ok (.goto 4, 3) := by decide +kernel
theorem dX8_reads_99 : decode cX8_reads 99 = .ok (.iconst 0, 1) := by decide +kernel
theorem dX8_reads_100 : decode cX8_reads 100 = .ok (.istore_n 2, 1) := by decide +kernel
theorem dX8_reads_101 : decode cX8_reads 101 = .ok (.iload_n 2, 1) := by decide +kernel
theorem dX8_reads_102 : decode cX8_reads 102 = .ok (.ifCond .eq 62, 3) := by decide +kernel
theorem dX8_reads_105 : decode cX8_reads 105 = .ok (.aload_n 0, 1) := by decide +kernel
theorem dX8_reads_106 : decode cX8_reads 106 = .ok (.getfield 32, 3) := by decide +kernel
theorem dX8_reads_109 : decode cX8_reads 109 = .ok (.aload_n 0, 1) := by decide +kernel
theorem dX8_reads_110 : decode cX8_reads 110 = .ok (.getfield 166, 3) := by decide +kernel
theorem dX8_reads_113 : decode cX8_reads 113 = .ok (.dup2, 1) := by decide +kernel
theorem dX8_reads_114 : decode cX8_reads 114 = .ok (.iaload, 1) := by decide +kernel
theorem dX8_reads_115 : decode cX8_reads 115 = .ok (.iconst 1, 1) := by decide +kernel
theorem dX8_reads_116 : decode cX8_reads 116 = .ok (.iadd, 1) := by decide +kernel
theorem dX8_reads_117 : decode cX8_reads 117 = .ok (.iastore, 1) := by decide +kernel
theorem dX8_reads_118 : decode cX8_reads 118 = .ok (.aload_n 0, 1) := by decide +kernel
theorem dX8_reads_119 : decode cX8_reads 119 = .ok (.getfield 50, 3) := by decide +kernel
theorem dX8_reads_122 : decode cX8_reads 122 = .ok (.aload_n 0, 1) := by decide +kernel
theorem dX8_reads_123 : decode cX8_reads 123 = .ok (.getfield 156, 3) := by decide +kernel
theorem dX8_reads_126 : decode cX8_reads 126 = .ok (.iload_n 1, 1) := by decide +kernel
theorem dX8_reads_127 : decode cX8_reads 127 = .ok (.bipush 65, 2) := by decide +kernel
theorem dX8_reads_129 : decode cX8_reads 129 = .ok (.isub, 1) := by decide +kernel
theorem dX8_reads_130 : decode cX8_reads 130 = .ok (.iastore, 1) := by decide +kernel
theorem dX8_reads_131 : decode cX8_reads 131 = .ok (.aload_n 0, 1) := by decide +kernel
theorem dX8_reads_132 : decode cX8_reads 132 = .ok (.getfield 53, 3) := by decide +kernel
theorem dX8_reads_135 : decode cX8_reads 135 = .ok (.aload_n 0, 1) := by decide +kernel
theorem dX8_reads_136 : decode cX8_reads 136 = .ok (.getfield 156, 3) := by decide +kernel
theorem dX8_reads_139 : decode cX8_reads 139 = .ok (.iconst 0, 1) := by decide +kernel
theorem dX8_reads_140 : decode cX8_reads 140 = .ok (.iastore, 1) := by decide +kernel
theorem dX8_reads_141 : decode cX8_reads 141 = .ok (.aload_n 0, 1) := by decide +kernel
theorem dX8_reads_142 : decode cX8_reads 142 = .ok (.dup, 1) := by decide +kernel
theorem dX8_reads_143 : decode cX8_reads 143 = .ok (.getfield 156, 3) := by decide +kernel
theorem dX8_reads_146 : decode cX8_reads 146 = .ok (.iconst 1, 1) := by decide +kernel
theorem dX8_reads_147 : decode cX8_reads 147 = .ok (.iadd, 1) := by decide +kernel
theorem dX8_reads_148 : decode cX8_reads 148 = .ok (.putfield 156, 3) := by decide +kernel
theorem dX8_reads_151 : decode cX8_reads 151 = .ok (.aload_n 0, 1) := by decide +kernel
theorem dX8_reads_152 : decode cX8_reads 152 = .ok (.getfield 59, 3) := by decide +kernel
theorem dX8_reads_155 : decode cX8_reads 155 = .ok (.aload_n 0, 1) := by decide +kernel
theorem dX8_reads_156 : decode cX8_reads 156 = .ok (.getfield 156, 3) := by decide +kernel
theorem dX8_reads_159 : decode cX8_reads 159 = .ok (.iconst 0, 1) := by decide +kernel
theorem dX8_reads_160 : decode cX8_reads 160 = .ok (.iastore, 1) := by decide +kernel
theorem dX8_reads_161 : decode cX8_reads 161 = .ok (.goto 12, 3) := by decide +kernel
theorem dX8_reads_164 : decode cX8_reads 164 = .ok (.aload_n 0, 1) := by decide +kernel
theorem dX8_reads_165 : decode cX8_reads 165 = .ok (.iload_n 1, 1) := by decide +kernel
theorem dX8_reads_166 : decode cX8_reads 166 = .ok (.bipush 65, 2) := by decide +kernel
theorem dX8_reads_168 : decode cX8_reads 168 = .ok (.isub, 1) := by decide +kernel
theorem dX8_reads_169 : decode cX8_reads 169 = .ok (.iconst 0, 1) := by decide +kernel
theorem dX8_reads_170 : decode cX8_reads 170 = .ok (.invokevirtual 195, 3) := by decide +kernel
theorem dX8_reads_173 : decode cX8_reads 173 = .ok (.goto 134, 3) := by decide +kernel
theorem dX8_reads_176 : decode cX8_reads 176 = .ok (.iload_n 1, 1) := by decide +kernel
theorem dX8_reads_177 : decode cX8_reads 177 = .ok (.bipush 44, 2) := by decide +kernel
theorem dX8_reads_179 : decode cX8_reads 179 = .ok (.if_icmp .eq 9, 3) := by decide +kernel
theorem dX8_reads_182 : decode cX8_reads 182 = .ok (.iload_n 1, 1) := by decide +kernel
theorem dX8_reads_183 : decode cX8_reads 183 = .ok (.bipush 41, 2) := by decide +kernel
theorem dX8_reads_185 : decode cX8_reads 185 = .ok (.if_icmp .ne 104, 3) := by decide +kernel
theorem dX8_reads_188 : decode cX8_reads 188 = .ok (.aload_n 0, 1) := by decide +kernel
theorem dX8_reads_189 : decode cX8_reads 189 = .ok (.getfield 56, 3) := by decide +kernel
theorem dX8_reads_192 : decode cX8_reads 192 = .ok (.bipush 6, 2) := by decide +kernel
theorem dX8_reads_194 : decode cX8_reads 194 = .ok (.aload_n 0, 1) := by decide +kernel
theorem dX8_reads_195 : decode cX8_reads 195 = .ok (.getfield 156, 3) := by decide +kernel
theorem dX8_reads_198 : decode cX8_reads 198 = .ok (.iconst 1, 1) := by decide +kernel
theorem dX8_reads_199 : decode cX8_reads 199 = .ok (.isub, 1) := by decide +kernel
theorem dX8_reads_200 : decode cX8_reads 200 = .ok (.imul, 1) := by decide +kernel
theorem dX8_reads_201 : decode cX8_reads 201 = .ok (.aload_n 0, 1) := by decide +kernel
theorem dX8_reads_202 : decode cX8_reads 202 = .ok (.getfield 53, 3) := by decide +kernel
theorem dX8_reads_205 : decode cX8_reads 205 = .ok (.aload_n 0, 1) := by decide +kernel
theorem dX8_reads_206 : decode cX8_reads 206 = .ok (.getfield 156, 3) := by decide +kernel
theorem dX8_reads_209 : decode cX8_reads 209 = .ok (.iconst 1, 1) := by decide +kernel
theorem dX8_reads_210 : decode cX8_reads 210 = .ok (.isub, 1) := by decide +kernel
theorem dX8_reads_211 : decode cX8_reads 211 = .ok (.iaload, 1) := by decide +kernel
theorem dX8_reads_212 : decode cX8_reads 212 = .ok (.iadd, 1) := by decide +kernel
theorem dX8_reads_213 : decode cX8_reads 213 = .ok (.aload_n 0, 1) := by decide +kernel
theorem dX8_reads_214 : decode cX8_reads 214 = .ok (.getfield 59, 3) := by decide +kernel
theorem dX8_reads_217 : decode cX8_reads 217 = .ok (.aload_n 0, 1) := by decide +kernel
theorem dX8_reads_218 : decode cX8_reads 218 = .ok (.getfield 156, 3) := by decide +kernel
theorem dX8_reads_221 : decode cX8_reads 221 = .ok (.iaload, 1) := by decide +kernel
theorem dX8_reads_222 : decode cX8_reads 222 = .ok (.iastore, 1) := by decide +kernel
theorem dX8_reads_223 : decode cX8_reads 223 = .ok (.aload_n 0, 1) := by decide +kernel
theorem dX8_reads_224 : decode cX8_reads 224 = .ok (.getfield 53, 3) := by decide +kernel
theorem dX8_reads_227 : decode cX8_reads 227 = .ok (.aload_n 0, 1) := by decide +kernel
theorem dX8_reads_228 : decode cX8_reads 228 = .ok (.getfield 156, 3) := by decide +kernel
theorem dX8_reads_231 : decode cX8_reads 231 = .ok (.iconst 1, 1) := by decide +kernel
theorem dX8_reads_232 : decode cX8_reads 232 = .ok (.isub, 1) := by decide +kernel
theorem dX8_reads_233 : decode cX8_reads 233 = .ok (.dup2, 1) := by decide +kernel
theorem dX8_reads_234 : decode cX8_reads 234 = .ok (.iaload, 1) := by decide +kernel
theorem dX8_reads_235 : decode cX8_reads 235 = .ok (.iconst 1, 1) := by decide +kernel
theorem dX8_reads_236 : decode cX8_reads 236 = .ok (.iadd, 1) := by decide +kernel
theorem dX8_reads_237 : decode cX8_reads 237 = .ok (.iastore, 1) := by decide +kernel
theorem dX8_reads_238 : decode cX8_reads 238 = .ok (.aload_n 0, 1) := by decide +kernel
theorem dX8_reads_239 : decode cX8_reads 239 = .ok (.getfield 59, 3) := by decide +kernel
theorem dX8_reads_242 : decode cX8_reads 242 = .ok (.aload_n 0, 1) := by decide +kernel
theorem dX8_reads_243 : decode cX8_reads 243 = .ok (.getfield 156, 3) := by decide +kernel
theorem dX8_reads_246 : decode cX8_reads 246 = .ok (.iconst 0, 1) := by decide +kernel
theorem dX8_reads_247 : decode cX8_reads 247 = .ok (.iastore, 1) := by decide +kernel
theorem dX8_reads_248 : decode cX8_reads 248 = .ok (.iload_n 1, 1) := by decide +kernel
theorem dX8_reads_249 : decode cX8_reads 249 = .ok (.bipush 41, 2) := by decide +kernel
theorem dX8_reads_251 : decode cX8_reads 251 = .ok (.if_icmp .ne 56, 3) := by decide +kernel
theorem dX8_reads_254 : decode cX8_reads 254 = .ok (.aload_n 0, 1) := by decide +kernel
theorem dX8_reads_255 : decode cX8_reads 255 = .ok (.dup, 1) := by decide +kernel
theorem dX8_reads_256 : decode cX8_reads 256 = .ok (.getfield 156, 3) := by decide +kernel
theorem dX8_reads_259 : decode cX8_reads 259 = .ok (.iconst 1, 1) := by decide +kernel
theorem dX8_reads_260 : decode cX8_reads 260 = .ok (.isub, 1) := by decide +kernel
theorem dX8_reads_261 : decode cX8_reads 261 = .ok (.putfield 156, 3) := by decide +kernel
theorem dX8_reads_264 : decode cX8_reads 264 = .ok (.aload_n 0, 1) := by decide +kernel
theorem dX8_reads_265 : decode cX8_reads 265 = .ok (.aload_n 0, 1) := by decide +kernel
theorem dX8_reads_266 : decode cX8_reads 266 = .ok (.getfield 50, 3) := by decide +kernel
theorem dX8_reads_269 : decode cX8_reads 269 = .ok (.aload_n 0, 1) := by decide +kernel
theorem dX8_reads_270 : decode cX8_reads 270 = .ok (.getfield 156, 3) := by decide +kernel
theorem dX8_reads_273 : decode cX8_reads 273 = .ok (.iaload, 1) := by decide +kernel
theorem dX8_reads_274 : decode cX8_reads 274 = .ok (.aload_n 0, 1) := by decide +kernel
theorem dX8_reads_275 : decode cX8_reads 275 = .ok (.getfield 53, 3) := by decide +kernel
theorem dX8_reads_278 : decode cX8_reads 278 = .ok (.aload_n 0, 1) := by decide +kernel
theorem dX8_reads_279 : decode cX8_reads 279 = .ok (.getfield 156, 3) := by decide +kernel
theorem dX8_reads_282 : decode cX8_reads 282 = .ok (.iaload, 1) := by decide +kernel
theorem dX8_reads_283 : decode cX8_reads 283 = .ok (.invokevirtual 195, 3) := by decide +kernel
theorem dX8_reads_286 : decode cX8_reads 286 = .ok (.goto 21, 3) := by decide +kernel
theorem dX8_reads_289 : decode cX8_reads 289 = .ok (.aload_n 0, 1) := by decide +kernel
theorem dX8_reads_290 : decode cX8_reads 290 = .ok (.iload_n 1, 1) := by decide +kernel
theorem dX8_reads_291 : decode cX8_reads 291 = .ok (.bipush 63, 2) := by decide +kernel
theorem dX8_reads_293 : decode cX8_reads 293 = .ok (.if_icmp .ne 10, 3) := by decide +kernel
theorem dX8_reads_296 : decode cX8_reads 296 = .ok (.aload_n 0, 1) := by decide +kernel
theorem dX8_reads_297 : decode cX8_reads 297 = .ok (.invokevirtual 199, 3) := by decide +kernel
theorem dX8_reads_300 : decode cX8_reads 300 = .ok (.goto 4, 3) := by decide +kernel
theorem dX8_reads_303 : decode cX8_reads 303 = .ok (.iconst 1, 1) := by decide +kernel
theorem dX8_reads_304 : decode cX8_reads 304 = .ok (.invokevirtual 178, 3) := by decide +kernel
theorem dX8_reads_307 : decode cX8_reads 307 = .ok (.return_, 1) := by decide +kernel
theorem dX8_measures_0 : decode cX8_measures 0 = .ok (.aload_n 0, 1) := by decide +kernel
theorem dX8_measures_1 : decode cX8_measures 1 = .ok (.getfield 159, 3) := by decide +kernel
theorem dX8_measures_4 : decode cX8_measures 4 = .ok (.ifCond .ne 131, 3) := by decide +kernel
theorem dX8_measures_7 : decode cX8_measures 7 = .ok (.aload_n 0, 1) := by decide +kernel
theorem dX8_measures_8 : decode cX8_measures 8 = .ok (.getfield 166, 3) := by decide +kernel
theorem dX8_measures_11 : decode cX8_measures 11 = .ok (.ifCond .gt 22, 3) := by decide +kernel
theorem dX8_measures_14 : decode cX8_measures 14 = .ok (.aload_n 0, 1) := by decide +kernel
theorem dX8_measures_15 : decode cX8_measures 15 = .ok (.getfield 32, 3) := by decide +kernel
theorem dX8_measures_18 : decode cX8_measures 18 = .ok (.iconst 0, 1) := by decide +kernel
theorem dX8_measures_19 : decode cX8_measures 19 = .ok (.iaload, 1) := by decide +kernel
theorem dX8_measures_20 : decode cX8_measures 20 = .ok (.aload_n 0, 1) := by decide +kernel
theorem dX8_measures_21 : decode cX8_measures 21 = .ok (.aload_n 0, 1) := by decide +kernel
theorem dX8_measures_22 : decode cX8_measures 22 = .ok (.getfield 29, 3) := by decide +kernel
theorem dX8_measures_25 : decode cX8_measures 25 = .ok (.iconst 0, 1) := by decide +kernel
theorem dX8_measures_26 : decode cX8_measures 26 = .ok (.iaload, 1) := by decide +kernel
theorem dX8_measures_27 : decode cX8_measures 27 = .ok (.invokevirtual 191, 3) := by decide +kernel
theorem dX8_measures_30 : decode cX8_measures 30 = .ok (.if_icmp .ge 105, 3) := by decide +kernel
theorem dX8_measures_33 : decode cX8_measures 33 = .ok (.aload_n 0, 1) := by decide +kernel
theorem dX8_measures_34 : decode cX8_measures 34 = .ok (.getfield 32, 3) := by decide +kernel
theorem dX8_measures_37 : decode cX8_measures 37 = .ok (.aload_n 0, 1) := by decide +kernel
theorem dX8_measures_38 : decode cX8_measures 38 = .ok (.getfield 166, 3) := by decide +kernel
theorem dX8_measures_41 : decode cX8_measures 41 = .ok (.iaload, 1) := by decide +kernel
theorem dX8_measures_42 : decode cX8_measures 42 = .ok (.aload_n 0, 1) := by decide +kernel
theorem dX8_measures_43 : decode cX8_measures 43 = .ok (.aload_n 0, 1) := by decide +kernel
theorem dX8_measures_44 : decode cX8_measures 44 = .ok (.getfield 29, 3) := by decide +kernel
theorem dX8_measures_47 : decode cX8_measures 47 = .ok (.aload_n 0, 1) := by decide +kernel
theorem dX8_measures_48 : decode cX8_measures 48 = .ok (.getfield 166, 3) := by decide +kernel
theorem dX8_measures_51 : decode cX8_measures 51 = .ok (.iaload, 1) := by decide +kernel
theorem dX8_measures_52 : decode cX8_measures 52 = .ok (.invokevirtual 191, 3) := by decide +kernel
theorem dX8_measures_55 : decode cX8_measures 55 = .ok (.if_icmp .ge 10, 3) := by decide +kernel
theorem dX8_measures_58 : decode cX8_measures 58 = .ok (.aload_n 0, 1) := by decide +kernel
theorem dX8_measures_59 : decode cX8_measures 59 = .ok (.invokevirtual 202, 3) := by decide +kernel
theorem dX8_measures_62 : decode cX8_measures 62 = .ok (.goto (-62), 3) := by decide +kernel
theorem dX8_measures_65 : decode cX8_measures 65 = .ok (.aload_n 0, 1) := by decide +kernel
theorem dX8_measures_66 : decode cX8_measures 66 = .ok (.aload_n 0, 1) := by decide +kernel
theorem dX8_measures_67 : decode cX8_measures 67 = .ok (.getfield 29, 3) := by decide +kernel
theorem dX8_measures_70 : decode cX8_measures 70 = .ok (.aload_n 0, 1) := by decide +kernel
theorem dX8_measures_71 : decode cX8_measures 71 = .ok (.getfield 166, 3) := by decide +kernel
theorem dX8_measures_74 : decode cX8_measures 74 = .ok (.iaload, 1) := by decide +kernel
theorem dX8_measures_75 : decode cX8_measures 75 = .ok (.iconst 0, 1) := by decide +kernel
theorem dX8_measures_76 : decode cX8_measures 76 = .ok (.aload_n 0, 1) := by decide +kernel
theorem dX8_measures_77 : decode cX8_measures 77 = .ok (.getfield 166, 3) := by decide +kernel
theorem dX8_measures_80 : decode cX8_measures 80 = .ok (.iconst 1, 1) := by decide +kernel
theorem dX8_measures_81 : decode cX8_measures 81 = .ok (.isub, 1) := by decide +kernel
theorem dX8_measures_82 : decode cX8_measures 82 = .ok (.aload_n 0, 1) := by decide +kernel
theorem dX8_measures_83 : decode cX8_measures 83 = .ok (.getfield 38, 3) := by decide +kernel
theorem dX8_measures_86 : decode cX8_measures 86 = .ok (.aload_n 0, 1) := by decide +kernel
theorem dX8_measures_87 : decode cX8_measures 87 = .ok (.getfield 166, 3) := by decide +kernel
theorem dX8_measures_90 : decode cX8_measures 90 = .ok (.iaload, 1) := by decide +kernel
theorem dX8_measures_91 : decode cX8_measures 91 = .ok (.aload_n 0, 1) := by decide +kernel
theorem dX8_measures_92 : decode cX8_measures 92 = .ok (.getfield 59, 3) := by decide +kernel
theorem dX8_measures_95 : decode cX8_measures 95 = .ok (.aload_n 0, 1) := by decide +kernel
theorem dX8_measures_96 : decode cX8_measures 96 = .ok (.getfield 156, 3) := by decide +kernel
theorem dX8_measures_99 : decode cX8_measures 99 = .ok (.iaload, 1) := by decide +kernel
theorem dX8_measures_100 : decode cX8_measures 100 = .ok (.aload_n 0, 1) := by decide +kernel
theorem dX8_measures_101 : decode cX8_measures 101 = .ok (.getfield 44, 3) := by decide +kernel
theorem dX8_measures_104 : decode cX8_measures 104 = .ok (.aload_n 0, 1) := by decide +kernel
theorem dX8_measures_105 : decode cX8_measures 105 = .ok (.getfield 166, 3) := by decide +kernel
theorem dX8_measures_108 : decode cX8_measures 108 = .ok (.iaload, 1) := by decide +kernel
theorem dX8_measures_109 : decode cX8_measures 109 = .ok (.isub, 1) := by decide +kernel
theorem dX8_measures_110 : decode cX8_measures 110 = .ok (.aload_n 0, 1) := by decide +kernel
theorem dX8_measures_111 : decode cX8_measures 111 = .ok (.getfield 41, 3) := by decide +kernel
theorem dX8_measures_114 : decode cX8_measures 114 = .ok (.aload_n 0, 1) := by decide +kernel
theorem dX8_measures_115 : decode cX8_measures 115 = .ok (.getfield 166, 3) := by decide +kernel
theorem dX8_measures_118 : decode cX8_measures 118 = .ok (.iaload, 1) := by decide +kernel
theorem dX8_measures_119 : decode cX8_measures 119 = .ok (.invokevirtual 181, 3) := by decide +kernel
theorem dX8_measures_122 : decode cX8_measures 122 = .ok (.aload_n 0, 1) := by decide +kernel
theorem dX8_measures_123 : decode cX8_measures 123 = .ok (.dup, 1) := by decide +kernel
theorem dX8_measures_124 : decode cX8_measures 124 = .ok (.getfield 166, 3) := by decide +kernel
theorem dX8_measures_127 : decode cX8_measures 127 = .ok (.iconst 1, 1) := by decide +kernel
theorem dX8_measures_128 : decode cX8_measures 128 = .ok (.isub, 1) := by decide +kernel
theorem dX8_measures_129 : decode cX8_measures 129 = .ok (.putfield 166, 3) := by decide +kernel
theorem dX8_measures_132 : decode cX8_measures 132 = .ok (.goto (-132), 3) := by decide +kernel
theorem dX8_measures_135 : decode cX8_measures 135 = .ok (.aload_n 0, 1) := by decide +kernel
theorem dX8_measures_136 : decode cX8_measures 136 = .ok (.getfield 159, 3) := by decide +kernel
theorem dX8_measures_139 : decode cX8_measures 139 = .ok (.ifCond .ne 7, 3) := by decide +kernel
theorem dX8_measures_142 : decode cX8_measures 142 = .ok (.iconst 1, 1) := by decide +kernel
theorem dX8_measures_143 : decode cX8_measures 143 = .ok (.goto 4, 3) := by decide +kernel
theorem dX8_measures_146 : decode cX8_measures 146 = .ok (.iconst 0, 1) := by decide +kernel
theorem dX8_measures_147 : decode cX8_measures 147 = .ok (.ireturn, 1) := by decide +kernel
theorem dX8_begins_0 : decode cX8_begins 0 = .ok (.aload_n 0, 1) := by decide +kernel
theorem dX8_begins_1 : decode cX8_begins 1 = .ok (.iconst 0, 1) := by decide +kernel
theorem dX8_begins_2 : decode cX8_begins 2 = .ok (.putfield 166, 3) := by decide +kernel
theorem dX8_begins_5 : decode cX8_begins 5 = .ok (.aload_n 0, 1) := by decide +kernel
theorem dX8_begins_6 : decode cX8_begins 6 = .ok (.getfield 29, 3) := by decide +kernel
theorem dX8_begins_9 : decode cX8_begins 9 = .ok (.iconst 0, 1) := by decide +kernel
theorem dX8_begins_10 : decode cX8_begins 10 = .ok (.iload_n 1, 1) := by decide +kernel
theorem dX8_begins_11 : decode cX8_begins 11 = .ok (.iastore, 1) := by decide +kernel
theorem dX8_begins_12 : decode cX8_begins 12 = .ok (.aload_n 0, 1) := by decide +kernel
theorem dX8_begins_13 : decode cX8_begins 13 = .ok (.getfield 32, 3) := by decide +kernel
theorem dX8_begins_16 : decode cX8_begins 16 = .ok (.iconst 0, 1) := by decide +kernel
theorem dX8_begins_17 : decode cX8_begins 17 = .ok (.iconst 0, 1) := by decide +kernel
theorem dX8_begins_18 : decode cX8_begins 18 = .ok (.iastore, 1) := by decide +kernel
theorem dX8_begins_19 : decode cX8_begins 19 = .ok (.aload_n 0, 1) := by decide +kernel
theorem dX8_begins_20 : decode cX8_begins 20 = .ok (.getfield 35, 3) := by decide +kernel
theorem dX8_begins_23 : decode cX8_begins 23 = .ok (.iconst 0, 1) := by decide +kernel
theorem dX8_begins_24 : decode cX8_begins 24 = .ok (.iconst 0, 1) := by decide +kernel
theorem dX8_begins_25 : decode cX8_begins 25 = .ok (.iastore, 1) := by decide +kernel
theorem dX8_begins_26 : decode cX8_begins 26 = .ok (.aload_n 0, 1) := by decide +kernel
theorem dX8_begins_27 : decode cX8_begins 27 = .ok (.iconst 0, 1) := by decide +kernel
theorem dX8_begins_28 : decode cX8_begins 28 = .ok (.putfield 156, 3) := by decide +kernel
theorem dX8_begins_31 : decode cX8_begins 31 = .ok (.aload_n 0, 1) := by decide +kernel
theorem dX8_begins_32 : decode cX8_begins 32 = .ok (.getfield 59, 3) := by decide +kernel
theorem dX8_begins_35 : decode cX8_begins 35 = .ok (.iconst 0, 1) := by decide +kernel
theorem dX8_begins_36 : decode cX8_begins 36 = .ok (.iconst 0, 1) := by decide +kernel
theorem dX8_begins_37 : decode cX8_begins 37 = .ok (.iastore, 1) := by decide +kernel
theorem dX8_begins_38 : decode cX8_begins 38 = .ok (.aload_n 0, 1) := by decide +kernel
theorem dX8_begins_39 : decode cX8_begins 39 = .ok (.iconst 0, 1) := by decide +kernel
theorem dX8_begins_40 : decode cX8_begins 40 = .ok (.putfield 159, 3) := by decide +kernel
theorem dX8_begins_43 : decode cX8_begins 43 = .ok (.aload_n 0, 1) := by decide +kernel
theorem dX8_begins_44 : decode cX8_begins 44 = .ok (.iconst 0, 1) := by decide +kernel
theorem dX8_begins_45 : decode cX8_begins 45 = .ok (.putfield 169, 3) := by decide +kernel
theorem dX8_begins_48 : decode cX8_begins 48 = .ok (.aload_n 0, 1) := by decide +kernel
theorem dX8_begins_49 : decode cX8_begins 49 = .ok (.iconst 0, 1) := by decide +kernel
theorem dX8_begins_50 : decode cX8_begins 50 = .ok (.putfield 172, 3) := by decide +kernel
theorem dX8_begins_53 : decode cX8_begins 53 = .ok (.aload_n 0, 1) := by decide +kernel
theorem dX8_begins_54 : decode cX8_begins 54 = .ok (.iconst 0, 1) := by decide +kernel
theorem dX8_begins_55 : decode cX8_begins 55 = .ok (.putfield 163, 3) := by decide +kernel
theorem dX8_begins_58 : decode cX8_begins 58 = .ok (.aload_n 0, 1) := by decide +kernel
theorem dX8_begins_59 : decode cX8_begins 59 = .ok (.iconst (-1), 1) := by decide +kernel
theorem dX8_begins_60 : decode cX8_begins 60 = .ok (.putfield 188, 3) := by decide +kernel
theorem dX8_begins_63 : decode cX8_begins 63 = .ok (.return_, 1) := by decide +kernel
theorem dX8_puts_0 : decode cX8_puts 0 = .ok (.aload_n 0, 1) := by decide +kernel
theorem dX8_puts_1 : decode cX8_puts 1 = .ok (.getfield 7, 3) := by decide +kernel
theorem dX8_puts_4 : decode cX8_puts 4 = .ok (.sipush 1588, 3) := by decide +kernel
theorem dX8_puts_7 : decode cX8_puts 7 = .ok (.aload_n 0, 1) := by decide +kernel
theorem dX8_puts_8 : decode cX8_puts 8 = .ok (.getfield 205, 3) := by decide +kernel
theorem dX8_puts_11 : decode cX8_puts 11 = .ok (.iadd, 1) := by decide +kernel
theorem dX8_puts_12 : decode cX8_puts 12 = .ok (.iload_n 1, 1) := by decide +kernel
theorem dX8_puts_13 : decode cX8_puts 13 = .ok (.iastore, 1) := by decide +kernel
theorem dX8_puts_14 : decode cX8_puts 14 = .ok (.aload_n 0, 1) := by decide +kernel
theorem dX8_puts_15 : decode cX8_puts 15 = .ok (.dup, 1) := by decide +kernel
theorem dX8_puts_16 : decode cX8_puts 16 = .ok (.getfield 205, 3) := by decide +kernel
theorem dX8_puts_19 : decode cX8_puts 19 = .ok (.iconst 1, 1) := by decide +kernel
theorem dX8_puts_20 : decode cX8_puts 20 = .ok (.iadd, 1) := by decide +kernel
theorem dX8_puts_21 : decode cX8_puts 21 = .ok (.putfield 205, 3) := by decide +kernel
theorem dX8_puts_24 : decode cX8_puts 24 = .ok (.return_, 1) := by decide +kernel
theorem dX8_enters_0 : decode cX8_enters 0 = .ok (.aload_n 0, 1) := by decide +kernel
theorem dX8_enters_1 : decode cX8_enters 1 = .ok (.dup, 1) := by decide +kernel
theorem dX8_enters_2 : decode cX8_enters 2 = .ok (.getfield 208, 3) := by decide +kernel
theorem dX8_enters_5 : decode cX8_enters 5 = .ok (.iconst 1, 1) := by decide +kernel
theorem dX8_enters_6 : decode cX8_enters 6 = .ok (.iadd, 1) := by decide +kernel
theorem dX8_enters_7 : decode cX8_enters 7 = .ok (.putfield 208, 3) := by decide +kernel
theorem dX8_enters_10 : decode cX8_enters 10 = .ok (.aload_n 0, 1) := by decide +kernel
theorem dX8_enters_11 : decode cX8_enters 11 = .ok (.getfield 65, 3) := by decide +kernel
theorem dX8_enters_14 : decode cX8_enters 14 = .ok (.aload_n 0, 1) := by decide +kernel
theorem dX8_enters_15 : decode cX8_enters 15 = .ok (.getfield 208, 3) := by decide +kernel
theorem dX8_enters_18 : decode cX8_enters 18 = .ok (.iload_n 1, 1) := by decide +kernel
theorem dX8_enters_19 : decode cX8_enters 19 = .ok (.iastore, 1) := by decide +kernel
theorem dX8_enters_20 : decode cX8_enters 20 = .ok (.aload_n 0, 1) := by decide +kernel
theorem dX8_enters_21 : decode cX8_enters 21 = .ok (.getfield 68, 3) := by decide +kernel
theorem dX8_enters_24 : decode cX8_enters 24 = .ok (.aload_n 0, 1) := by decide +kernel
theorem dX8_enters_25 : decode cX8_enters 25 = .ok (.getfield 208, 3) := by decide +kernel
theorem dX8_enters_28 : decode cX8_enters 28 = .ok (.iload_n 2, 1) := by decide +kernel
theorem dX8_enters_29 : decode cX8_enters 29 = .ok (.iastore, 1) := by decide +kernel
theorem dX8_enters_30 : decode cX8_enters 30 = .ok (.aload_n 0, 1) := by decide +kernel
theorem dX8_enters_31 : decode cX8_enters 31 = .ok (.getfield 71, 3) := by decide +kernel
theorem dX8_enters_34 : decode cX8_enters 34 = .ok (.aload_n 0, 1) := by decide +kernel
theorem dX8_enters_35 : decode cX8_enters 35 = .ok (.getfield 208, 3) := by decide +kernel
theorem dX8_enters_38 : decode cX8_enters 38 = .ok (.iload_n 3, 1) := by decide +kernel
theorem dX8_enters_39 : decode cX8_enters 39 = .ok (.iastore, 1) := by decide +kernel
theorem dX8_enters_40 : decode cX8_enters 40 = .ok (.return_, 1) := by decide +kernel
theorem dX8_skips_0 : decode cX8_skips 0 = .ok (.aload_n 0, 1) := by decide +kernel
theorem dX8_skips_1 : decode cX8_skips 1 = .ok (.getfield 65, 3) := by decide +kernel
theorem dX8_skips_4 : decode cX8_skips 4 = .ok (.aload_n 0, 1) := by decide +kernel
theorem dX8_skips_5 : decode cX8_skips 5 = .ok (.getfield 208, 3) := by decide +kernel
theorem dX8_skips_8 : decode cX8_skips 8 = .ok (.iaload, 1) := by decide +kernel
theorem dX8_skips_9 : decode cX8_skips 9 = .ok (.istore_n 1, 1) := by decide +kernel
theorem dX8_skips_10 : decode cX8_skips 10 = .ok (.aload_n 0, 1) := by decide +kernel
theorem dX8_skips_11 : decode cX8_skips 11 = .ok (.getfield 83, 3) := by decide +kernel
theorem dX8_skips_14 : decode cX8_skips 14 = .ok (.aload_n 0, 1) := by decide +kernel
theorem dX8_skips_15 : decode cX8_skips 15 = .ok (.getfield 211, 3) := by decide +kernel
theorem dX8_skips_18 : decode cX8_skips 18 = .ok (.iconst 0, 1) := by decide +kernel
theorem dX8_skips_19 : decode cX8_skips 19 = .ok (.iastore, 1) := by decide +kernel
theorem dX8_skips_20 : decode cX8_skips 20 = .ok (.aload_n 0, 1) := by decide +kernel
theorem dX8_skips_21 : decode cX8_skips 21 = .ok (.getfield 68, 3) := by decide +kernel
theorem dX8_skips_24 : decode cX8_skips 24 = .ok (.aload_n 0, 1) := by decide +kernel
theorem dX8_skips_25 : decode cX8_skips 25 = .ok (.getfield 208, 3) := by decide +kernel
theorem dX8_skips_28 : decode cX8_skips 28 = .ok (.iaload, 1) := by decide +kernel
theorem dX8_skips_29 : decode cX8_skips 29 = .ok (.aload_n 0, 1) := by decide +kernel
theorem dX8_skips_30 : decode cX8_skips 30 = .ok (.iload_n 1, 1) := by decide +kernel
theorem dX8_skips_31 : decode cX8_skips 31 = .ok (.invokevirtual 191, 3) := by decide +kernel
theorem dX8_skips_34 : decode cX8_skips 34 = .ok (.if_icmp .ge 22, 3) := by decide +kernel
theorem dX8_skips_37 : decode cX8_skips 37 = .ok (.aload_n 0, 1) := by decide +kernel
theorem dX8_skips_38 : decode cX8_skips 38 = .ok (.iload_n 1, 1) := by decide +kernel
theorem dX8_skips_39 : decode cX8_skips 39 = .ok (.aload_n 0, 1) := by decide +kernel
theorem dX8_skips_40 : decode cX8_skips 40 = .ok (.getfield 68, 3) := by decide +kernel
theorem dX8_skips_43 : decode cX8_skips 43 = .ok (.aload_n 0, 1) := by decide +kernel
theorem dX8_skips_44 : decode cX8_skips 44 = .ok (.getfield 208, 3) := by decide +kernel
theorem dX8_skips_47 : decode cX8_skips 47 = .ok (.iaload, 1) := by decide +kernel
theorem dX8_skips_48 : decode cX8_skips 48 = .ok (.invokevirtual 135, 3) := by decide +kernel
theorem dX8_skips_51 : decode cX8_skips 51 = .ok (.bipush 40, 2) := by decide +kernel
theorem dX8_skips_53 : decode cX8_skips 53 = .ok (.if_icmp .eq 4, 3) := by decide +kernel
theorem dX8_skips_56 : decode cX8_skips 56 = .ok (.return_, 1) := by decide +kernel
theorem dX8_skips_57 : decode cX8_skips 57 = .ok (.iconst 0, 1) := by decide +kernel
theorem dX8_skips_58 : decode cX8_skips 58 = .ok (.istore_n 2, 1) := by decide +kernel
theorem dX8_skips_59 : decode cX8_skips 59 = .ok (.aload_n 0, 1) := by decide +kernel
theorem dX8_skips_60 : decode cX8_skips 60 = .ok (.iload_n 1, 1) := by decide +kernel
theorem dX8_skips_61 : decode cX8_skips 61 = .ok (.aload_n 0, 1) := by decide +kernel
theorem dX8_skips_62 : decode cX8_skips 62 = .ok (.getfield 68, 3) := by decide +kernel
theorem dX8_skips_65 : decode cX8_skips 65 = .ok (.aload_n 0, 1) := by decide +kernel
theorem dX8_skips_66 : decode cX8_skips 66 = .ok (.getfield 208, 3) := by decide +kernel
theorem dX8_skips_69 : decode cX8_skips 69 = .ok (.iaload, 1) := by decide +kernel
theorem dX8_skips_70 : decode cX8_skips 70 = .ok (.invokevirtual 135, 3) := by decide +kernel
theorem dX8_skips_73 : decode cX8_skips 73 = .ok (.istore_n 3, 1) := by decide +kernel
theorem dX8_skips_74 : decode cX8_skips 74 = .ok (.aload_n 0, 1) := by decide +kernel
theorem dX8_skips_75 : decode cX8_skips 75 = .ok (.getfield 68, 3) := by decide +kernel
theorem dX8_skips_78 : decode cX8_skips 78 = .ok (.aload_n 0, 1) := by decide +kernel
theorem dX8_skips_79 : decode cX8_skips 79 = .ok (.getfield 208, 3) := by decide +kernel
theorem dX8_skips_82 : decode cX8_skips 82 = .ok (.dup2, 1) := by decide +kernel
theorem dX8_skips_83 : decode cX8_skips 83 = .ok (.iaload, 1) := by decide +kernel
theorem dX8_skips_84 : decode cX8_skips 84 = .ok (.iconst 1, 1) := by decide +kernel
theorem dX8_skips_85 : decode cX8_skips 85 = .ok (.iadd, 1) := by decide +kernel
theorem dX8_skips_86 : decode cX8_skips 86 = .ok (.iastore, 1) := by decide +kernel
theorem dX8_skips_87 : decode cX8_skips 87 = .ok (.iload_n 2, 1) := by decide +kernel
theorem dX8_skips_88 : decode cX8_skips 88 = .ok (.iload_n 3, 1) := by decide +kernel
theorem dX8_skips_89 : decode cX8_skips 89 = .ok (.bipush 40, 2) := by decide +kernel
theorem dX8_skips_91 : decode cX8_skips 91 = .ok (.if_icmp .ne 7, 3) := by decide +kernel
theorem dX8_skips_94 : decode cX8_skips 94 = .ok (.iconst 1, 1) := by decide +kernel
theorem dX8_skips_95 : decode cX8_skips 95 = .ok (.goto 14, 3) := by decide +kernel
theorem dX8_skips_98 : decode cX8_skips 98 = .ok (.iload_n 3, 1) := by decide +kernel
theorem dX8_skips_99 : decode cX8_skips 99 = .ok (.bipush 41, 2) := by decide +kernel
theorem dX8_skips_101 : decode cX8_skips 101 = .ok (.if_icmp .ne 7, 3) := by decide +kernel
theorem dX8_skips_104 : decode cX8_skips 104 = .ok (.iconst (-1), 1) := by decide +kernel
theorem dX8_skips_105 : decode cX8_skips 105 = .ok (.goto 4, 3) := by decide +kernel
theorem dX8_skips_108 : decode cX8_skips 108 = .ok (.iconst 0, 1) := by decide +kernel
theorem dX8_skips_109 : decode cX8_skips 109 = .ok (.iadd, 1) := by decide +kernel
theorem dX8_skips_110 : decode cX8_skips 110 = .ok (.istore_n 2, 1) := by decide +kernel
theorem dX8_skips_111 : decode cX8_skips 111 = .ok (.iload_n 2, 1) := by decide +kernel
theorem dX8_skips_112 : decode cX8_skips 112 = .ok (.iconst 1, 1) := by decide +kernel
theorem dX8_skips_113 : decode cX8_skips 113 = .ok (.if_icmp .ne 59, 3) := by decide +kernel
theorem dX8_skips_116 : decode cX8_skips 116 = .ok (.iload_n 3, 1) := by decide +kernel
theorem dX8_skips_117 : decode cX8_skips 117 = .ok (.bipush 44, 2) := by decide +kernel
theorem dX8_skips_119 : decode cX8_skips 119 = .ok (.if_icmp .eq 9, 3) := by decide +kernel
theorem dX8_skips_122 : decode cX8_skips 122 = .ok (.iload_n 3, 1) := by decide +kernel
theorem dX8_skips_123 : decode cX8_skips 123 = .ok (.bipush 40, 2) := by decide +kernel
theorem dX8_skips_125 : decode cX8_skips 125 = .ok (.if_icmp .ne 47, 3) := by decide +kernel
theorem dX8_skips_128 : decode cX8_skips 128 = .ok (.aload_n 0, 1) := by decide +kernel
theorem dX8_skips_129 : decode cX8_skips 129 = .ok (.getfield 86, 3) := by decide +kernel
theorem dX8_skips_132 : decode cX8_skips 132 = .ok (.bipush 6, 2) := by decide +kernel
theorem dX8_skips_134 : decode cX8_skips 134 = .ok (.aload_n 0, 1) := by decide +kernel
theorem dX8_skips_135 : decode cX8_skips 135 = .ok (.getfield 211, 3) := by decide +kernel
theorem dX8_skips_138 : decode cX8_skips 138 = .ok (.imul, 1) := by decide +kernel
theorem dX8_skips_139 : decode cX8_skips 139 = .ok (.aload_n 0, 1) := by decide +kernel
theorem dX8_skips_140 : decode cX8_skips 140 = .ok (.getfield 83, 3) := by decide +kernel
theorem dX8_skips_143 : decode cX8_skips 143 = .ok (.aload_n 0, 1) := by decide +kernel
theorem dX8_skips_144 : decode cX8_skips 144 = .ok (.getfield 211, 3) := by decide +kernel
theorem dX8_skips_147 : decode cX8_skips 147 = .ok (.iaload, 1) := by decide +kernel
theorem dX8_skips_148 : decode cX8_skips 148 = .ok (.iadd, 1) := by decide +kernel
theorem dX8_skips_149 : decode cX8_skips 149 = .ok (.aload_n 0, 1) := by decide +kernel
theorem dX8_skips_150 : decode cX8_skips 150 = .ok (.getfield 68, 3) := by decide +kernel
theorem dX8_skips_153 : decode cX8_skips 153 = .ok (.aload_n 0, 1) := by decide +kernel
theorem dX8_skips_154 : decode cX8_skips 154 = .ok (.getfield 208, 3) := by decide +kernel
theorem dX8_skips_157 : decode cX8_skips 157 = .ok (.iaload, 1) := by decide +kernel
theorem dX8_skips_158 : decode cX8_skips 158 = .ok (.iastore, 1) := by decide +kernel
theorem dX8_skips_159 : decode cX8_skips 159 = .ok (.aload_n 0, 1) := by decide +kernel
theorem dX8_skips_160 : decode cX8_skips 160 = .ok (.getfield 83, 3) := by decide +kernel
theorem dX8_skips_163 : decode cX8_skips 163 = .ok (.aload_n 0, 1) := by decide +kernel
theorem dX8_skips_164 : decode cX8_skips 164 = .ok (.getfield 211, 3) := by decide +kernel
theorem dX8_skips_167 : decode cX8_skips 167 = .ok (.dup2, 1) := by decide +kernel
theorem dX8_skips_168 : decode cX8_skips 168 = .ok (.iaload, 1) := by decide +kernel
theorem dX8_skips_169 : decode cX8_skips 169 = .ok (.iconst 1, 1) := by decide +kernel
theorem dX8_skips_170 : decode cX8_skips 170 = .ok (.iadd, 1) := by decide +kernel
theorem dX8_skips_171 : decode cX8_skips 171 = .ok (.iastore, 1) := by decide +kernel
theorem dX8_skips_172 : decode cX8_skips 172 = .ok (.iload_n 2, 1) := by decide +kernel
theorem dX8_skips_173 : decode cX8_skips 173 = .ok (.ifCond .gt (-114), 3) := by decide +kernel
theorem dX8_skips_176 : decode cX8_skips 176 = .ok (.return_, 1) := by decide +kernel
theorem dX8_calls_0 : decode cX8_calls 0 = .ok (.aload_n 0, 1) := by decide +kernel
theorem dX8_calls_1 : decode cX8_calls 1 = .ok (.getfield 71, 3) := by decide +kernel
theorem dX8_calls_4 : decode cX8_calls 4 = .ok (.aload_n 0, 1) := by decide +kernel
theorem dX8_calls_5 : decode cX8_calls 5 = .ok (.getfield 208, 3) := by decide +kernel
theorem dX8_calls_8 : decode cX8_calls 8 = .ok (.iaload, 1) := by decide +kernel
theorem dX8_calls_9 : decode cX8_calls 9 = .ok (.istore_n 2, 1) := by decide +kernel
theorem dX8_calls_10 : decode cX8_calls 10 = .ok (.aload_n 0, 1) := by decide +kernel
theorem dX8_calls_11 : decode cX8_calls 11 = .ok (.getfield 65, 3) := by decide +kernel
theorem dX8_calls_14 : decode cX8_calls 14 = .ok (.aload_n 0, 1) := by decide +kernel
theorem dX8_calls_15 : decode cX8_calls 15 = .ok (.getfield 208, 3) := by decide +kernel
theorem dX8_calls_18 : decode cX8_calls 18 = .ok (.iaload, 1) := by decide +kernel
theorem dX8_calls_19 : decode cX8_calls 19 = .ok (.istore_n 3, 1) := by decide +kernel
theorem dX8_calls_20 : decode cX8_calls 20 = .ok (.aload_n 0, 1) := by decide +kernel
theorem dX8_calls_21 : decode cX8_calls 21 = .ok (.invokevirtual 214, 3) := by decide +kernel
theorem dX8_calls_24 : decode cX8_calls 24 = .ok (.iconst 0, 1) := by decide +kernel
theorem dX8_calls_25 : decode cX8_calls 25 = .ok (.istore 4, 2) := by decide +kernel
theorem dX8_calls_27 : decode cX8_calls 27 = .ok (.iconst 0, 1) := by decide +kernel
theorem dX8_calls_28 : decode cX8_calls 28 = .ok (.istore 5, 2) := by decide +kernel
theorem dX8_calls_30 : decode cX8_calls 30 = .ok (.iload_n 2, 1) := by decide +kernel
theorem dX8_calls_31 : decode cX8_calls 31 = .ok (.istore 6, 2) := by decide +kernel
theorem dX8_calls_33 : decode cX8_calls 33 = .ok (.iload 6, 2) := by decide +kernel
theorem dX8_calls_35 : decode cX8_calls 35 = .ok (.ifCond .lt 41, 3) := by decide +kernel
theorem dX8_calls_38 : decode cX8_calls 38 = .ok (.iload 4, 2) := by decide +kernel
theorem dX8_calls_40 : decode cX8_calls 40 = .ok (.ifCond .ne 14, 3) := by decide +kernel
theorem dX8_calls_43 : decode cX8_calls 43 = .ok (.aload_n 0, 1) := by decide +kernel
theorem dX8_calls_44 : decode cX8_calls 44 = .ok (.getfield 74, 3) := by decide +kernel
theorem dX8_calls_47 : decode cX8_calls 47 = .ok (.iload 6, 2) := by decide +kernel
theorem dX8_calls_49 : decode cX8_calls 49 = .ok (.iaload, 1) := by decide +kernel
theorem dX8_calls_50 : decode cX8_calls 50 = .ok (.iload_n 1, 1) := by decide +kernel
theorem dX8_calls_51 : decode cX8_calls 51 = .ok (.if_icmp .ne 7, 3) := by decide +kernel
theorem dX8_calls_54 : decode cX8_calls 54 = .ok (.iconst 1, 1) := by decide +kernel
theorem dX8_calls_55 : decode cX8_calls 55 = .ok (.goto 4, 3) := by decide +kernel
theorem dX8_calls_58 : decode cX8_calls 58 = .ok (.iconst 0, 1) := by decide +kernel
theorem dX8_calls_59 : decode cX8_calls 59 = .ok (.istore 4, 2) := by decide +kernel
theorem dX8_calls_61 : decode cX8_calls 61 = .ok (.iinc 5 1, 3) := by decide +kernel
theorem dX8_calls_64 : decode cX8_calls 64 = .ok (.aload_n 0, 1) := by decide +kernel
theorem dX8_calls_65 : decode cX8_calls 65 = .ok (.getfield 80, 3) := by decide +kernel
theorem dX8_calls_68 : decode cX8_calls 68 = .ok (.iload 6, 2) := by decide +kernel
theorem dX8_calls_70 : decode cX8_calls 70 = .ok (.iaload, 1) := by decide +kernel
theorem dX8_calls_71 : decode cX8_calls 71 = .ok (.istore 6, 2) := by decide +kernel
theorem dX8_calls_73 : decode cX8_calls 73 = .ok (.goto (-40), 3) := by decide +kernel
theorem dX8_calls_76 : decode cX8_calls 76 = .ok (.aload_n 0, 1) := by decide +kernel
theorem dX8_calls_77 : decode cX8_calls 77 = .ok (.iload_n 1, 1) := by decide +kernel
theorem dX8_calls_78 : decode cX8_calls 78 = .ok (.invokevirtual 112, 3) := by decide +kernel
theorem dX8_calls_81 : decode cX8_calls 81 = .ok (.ifCond .eq 21, 3) := by decide +kernel
theorem dX8_calls_84 : decode cX8_calls 84 = .ok (.iload 4, 2) := by decide +kernel
theorem dX8_calls_86 : decode cX8_calls 86 = .ok (.ifCond .ne 16, 3) := by decide +kernel
theorem dX8_calls_89 : decode cX8_calls 89 = .ok (.iload 5, 2) := by decide +kernel
theorem dX8_calls_91 : decode cX8_calls 91 = .ok (.aload_n 0, 1) := by decide +kernel
theorem dX8_calls_92 : decode cX8_calls 92 = .ok (.getfield 7, 3) := by decide +kernel
theorem dX8_calls_95 : decode cX8_calls 95 = .ok (.sipush 1586, 3) := by decide +kernel
theorem dX8_calls_98 : decode cX8_calls 98 = .ok (.iaload, 1) := by decide +kernel
theorem dX8_calls_99 : decode cX8_calls 99 = .ok (.if_icmp .ne 33, 3) := by decide +kernel
theorem dX8_calls_102 : decode cX8_calls 102 = .ok (.aload_n 0, 1) := by decide +kernel
theorem dX8_calls_103 : decode cX8_calls 103 = .ok (.aload_n 0, 1) := by decide +kernel
theorem dX8_calls_104 : decode cX8_calls 104 = .ok (.iload_n 1, 1) := by decide +kernel
theorem dX8_calls_105 : decode cX8_calls 105 = .ok (.invokevirtual 112, 3) := by decide +kernel
theorem dX8_calls_108 : decode cX8_calls 108 = .ok (.ifCond .ne 8, 3) := by decide +kernel
theorem dX8_calls_111 : decode cX8_calls 111 = .ok (.bipush 36, 2) := by decide +kernel
theorem dX8_calls_113 : decode cX8_calls 113 = .ok (.goto 15, 3) := by decide +kernel
theorem dX8_calls_116 : decode cX8_calls 116 = .ok (.iload 4, 2) := by decide +kernel
theorem dX8_calls_118 : decode cX8_calls 118 = .ok (.ifCond .eq 8, 3) := by decide +kernel
theorem dX8_calls_121 : decode cX8_calls 121 = .ok (.bipush 35, 2) := by decide +kernel
theorem dX8_calls_123 : decode cX8_calls 123 = .ok (.goto 5, 3) := by decide +kernel
theorem dX8_calls_126 : decode cX8_calls 126 = .ok (.bipush 37, 2) := by decide +kernel
theorem dX8_calls_128 : decode cX8_calls 128 = .ok (.invokevirtual 217, 3) := by decide +kernel
theorem dX8_calls_131 : decode cX8_calls 131 = .ok (.return_, 1) := by decide +kernel
theorem dX8_calls_132 : decode cX8_calls 132 = .ok (.aload_n 0, 1) := by decide +kernel
theorem dX8_calls_133 : decode cX8_calls 133 = .ok (.getfield 74, 3) := by decide +kernel
theorem dX8_calls_136 : decode cX8_calls 136 = .ok (.aload_n 0, 1) := by decide +kernel
theorem dX8_calls_137 : decode cX8_calls 137 = .ok (.getfield 211, 3) := by decide +kernel
theorem dX8_calls_140 : decode cX8_calls 140 = .ok (.iload_n 1, 1) := by decide +kernel
theorem dX8_calls_141 : decode cX8_calls 141 = .ok (.iastore, 1) := by decide +kernel
theorem dX8_calls_142 : decode cX8_calls 142 = .ok (.aload_n 0, 1) := by decide +kernel
theorem dX8_calls_143 : decode cX8_calls 143 = .ok (.getfield 77, 3) := by decide +kernel
theorem dX8_calls_146 : decode cX8_calls 146 = .ok (.aload_n 0, 1) := by decide +kernel
theorem dX8_calls_147 : decode cX8_calls 147 = .ok (.getfield 211, 3) := by decide +kernel
theorem dX8_calls_150 : decode cX8_calls 150 = .ok (.iload_n 3, 1) := by decide +kernel
theorem dX8_calls_151 : decode cX8_calls 151 = .ok (.iastore, 1) := by decide +kernel
theorem dX8_calls_152 : decode cX8_calls 152 = .ok (.aload_n 0, 1) := by decide +kernel
theorem dX8_calls_153 : decode cX8_calls 153 = .ok (.getfield 80, 3) := by decide +kernel
theorem dX8_calls_156 : decode cX8_calls 156 = .ok (.aload_n 0, 1) := by decide +kernel
theorem dX8_calls_157 : decode cX8_calls 157 = .ok (.getfield 211, 3) := by decide +kernel
theorem dX8_calls_160 : decode cX8_calls 160 = .ok (.iload_n 2, 1) := by decide +kernel
theorem dX8_calls_161 : decode cX8_calls 161 = .ok (.iastore, 1) := by decide +kernel
theorem dX8_calls_162 : decode cX8_calls 162 = .ok (.aload_n 0, 1) := by decide +kernel
theorem dX8_calls_163 : decode cX8_calls 163 = .ok (.iload_n 1, 1) := by decide +kernel
theorem dX8_calls_164 : decode cX8_calls 164 = .ok (.iconst 0, 1) := by decide +kernel
theorem dX8_calls_165 : decode cX8_calls 165 = .ok (.aload_n 0, 1) := by decide +kernel
theorem dX8_calls_166 : decode cX8_calls 166 = .ok (.getfield 211, 3) := by decide +kernel
theorem dX8_calls_169 : decode cX8_calls 169 = .ok (.invokevirtual 220, 3) := by decide +kernel
theorem dX8_calls_172 : decode cX8_calls 172 = .ok (.aload_n 0, 1) := by decide +kernel
theorem dX8_calls_173 : decode cX8_calls 173 = .ok (.dup, 1) := by decide +kernel
theorem dX8_calls_174 : decode cX8_calls 174 = .ok (.getfield 211, 3) := by decide +kernel
theorem dX8_calls_177 : decode cX8_calls 177 = .ok (.iconst 1, 1) := by decide +kernel
theorem dX8_calls_178 : decode cX8_calls 178 = .ok (.iadd, 1) := by decide +kernel
theorem dX8_calls_179 : decode cX8_calls 179 = .ok (.putfield 211, 3) := by decide +kernel
theorem dX8_calls_182 : decode cX8_calls 182 = .ok (.return_, 1) := by decide +kernel
theorem dX8_fills_0 : decode cX8_fills 0 = .ok (.aload_n 0, 1) := by decide +kernel
theorem dX8_fills_1 : decode cX8_fills 1 = .ok (.getfield 71, 3) := by decide +kernel
theorem dX8_fills_4 : decode cX8_fills 4 = .ok (.aload_n 0, 1) := by decide +kernel
theorem dX8_fills_5 : decode cX8_fills 5 = .ok (.getfield 208, 3) := by decide +kernel
theorem dX8_fills_8 : decode cX8_fills 8 = .ok (.iaload, 1) := by decide +kernel
theorem dX8_fills_9 : decode cX8_fills 9 = .ok (.istore_n 1, 1) := by decide +kernel
theorem dX8_fills_10 : decode cX8_fills 10 = .ok (.aload_n 0, 1) := by decide +kernel
theorem dX8_fills_11 : decode cX8_fills 11 = .ok (.aload_n 0, 1) := by decide +kernel
theorem dX8_fills_12 : decode cX8_fills 12 = .ok (.getfield 65, 3) := by decide +kernel
theorem dX8_fills_15 : decode cX8_fills 15 = .ok (.aload_n 0, 1) := by decide +kernel
theorem dX8_fills_16 : decode cX8_fills 16 = .ok (.getfield 208, 3) := by decide +kernel
theorem dX8_fills_19 : decode cX8_fills 19 = .ok (.iaload, 1) := by decide +kernel
theorem dX8_fills_20 : decode cX8_fills 20 = .ok (.aload_n 0, 1) := by decide +kernel
theorem dX8_fills_21 : decode cX8_fills 21 = .ok (.getfield 68, 3) := by decide +kernel
theorem dX8_fills_24 : decode cX8_fills 24 = .ok (.aload_n 0, 1) := by decide +kernel
theorem dX8_fills_25 : decode cX8_fills 25 = .ok (.getfield 208, 3) := by decide +kernel
theorem dX8_fills_28 : decode cX8_fills 28 = .ok (.iaload, 1) := by decide +kernel
theorem dX8_fills_29 : decode cX8_fills 29 = .ok (.iconst 1, 1) := by decide +kernel
theorem dX8_fills_30 : decode cX8_fills 30 = .ok (.isub, 1) := by decide +kernel
theorem dX8_fills_31 : decode cX8_fills 31 = .ok (.invokevirtual 150, 3) := by decide +kernel
theorem dX8_fills_34 : decode cX8_fills 34 = .ok (.istore_n 2, 1) := by decide +kernel
theorem dX8_fills_35 : decode cX8_fills 35 = .ok (.iload_n 1, 1) := by decide +kernel
theorem dX8_fills_36 : decode cX8_fills 36 = .ok (.ifCond .ge 12, 3) := by decide +kernel
theorem dX8_fills_39 : decode cX8_fills 39 = .ok (.aload_n 0, 1) := by decide +kernel
theorem dX8_fills_40 : decode cX8_fills 40 = .ok (.bipush 63, 2) := by decide +kernel
theorem dX8_fills_42 : decode cX8_fills 42 = .ok (.invokevirtual 217, 3) := by decide +kernel
theorem dX8_fills_45 : decode cX8_fills 45 = .ok (.goto 40, 3) := by decide +kernel
theorem dX8_fills_48 : decode cX8_fills 48 = .ok (.iload_n 2, 1) := by decide +kernel
theorem dX8_fills_49 : decode cX8_fills 49 = .ok (.aload_n 0, 1) := by decide +kernel
theorem dX8_fills_50 : decode cX8_fills 50 = .ok (.getfield 83, 3) := by decide +kernel
theorem dX8_fills_53 : decode cX8_fills 53 = .ok (.iload_n 1, 1) := by decide +kernel
theorem dX8_fills_54 : decode cX8_fills 54 = .ok (.iaload, 1) := by decide +kernel
theorem dX8_fills_55 : decode cX8_fills 55 = .ok (.if_icmp .ge 30, 3) := by decide +kernel
theorem dX8_fills_58 : decode cX8_fills 58 = .ok (.aload_n 0, 1) := by decide +kernel
theorem dX8_fills_59 : decode cX8_fills 59 = .ok (.aload_n 0, 1) := by decide +kernel
theorem dX8_fills_60 : decode cX8_fills 60 = .ok (.getfield 77, 3) := by decide +kernel
theorem dX8_fills_63 : decode cX8_fills 63 = .ok (.iload_n 1, 1) := by decide +kernel
theorem dX8_fills_64 : decode cX8_fills 64 = .ok (.iaload, 1) := by decide +kernel
theorem dX8_fills_65 : decode cX8_fills 65 = .ok (.aload_n 0, 1) := by decide +kernel
theorem dX8_fills_66 : decode cX8_fills 66 = .ok (.getfield 86, 3) := by decide +kernel
theorem dX8_fills_69 : decode cX8_fills 69 = .ok (.bipush 6, 2) := by decide +kernel
theorem dX8_fills_71 : decode cX8_fills 71 = .ok (.iload_n 1, 1) := by decide +kernel
theorem dX8_fills_72 : decode cX8_fills 72 = .ok (.imul, 1) := by decide +kernel
theorem dX8_fills_73 : decode cX8_fills 73 = .ok (.iload_n 2, 1) := by decide +kernel
theorem dX8_fills_74 : decode cX8_fills 74 = .ok (.iadd, 1) := by decide +kernel
theorem dX8_fills_75 : decode cX8_fills 75 = .ok (.iaload, 1) := by decide +kernel
theorem dX8_fills_76 : decode cX8_fills 76 = .ok (.aload_n 0, 1) := by decide +kernel
theorem dX8_fills_77 : decode cX8_fills 77 = .ok (.getfield 80, 3) := by decide +kernel
theorem dX8_fills_80 : decode cX8_fills 80 = .ok (.iload_n 1, 1) := by decide +kernel
theorem dX8_fills_81 : decode cX8_fills 81 = .ok (.iaload, 1) := by decide +kernel
theorem dX8_fills_82 : decode cX8_fills 82 = .ok (.invokevirtual 220, 3) := by decide +kernel
theorem dX8_fills_85 : decode cX8_fills 85 = .ok (.return_, 1) := by decide +kernel
theorem dX8_spells_0 : decode cX8_spells 0 = .ok (.aload_n 0, 1) := by decide +kernel
theorem dX8_spells_1 : decode cX8_spells 1 = .ok (.iconst 0, 1) := by decide +kernel
theorem dX8_spells_2 : decode cX8_spells 2 = .ok (.putfield 205, 3) := by decide +kernel
theorem dX8_spells_5 : decode cX8_spells 5 = .ok (.aload_n 0, 1) := by decide +kernel
theorem dX8_spells_6 : decode cX8_spells 6 = .ok (.iconst 0, 1) := by decide +kernel
theorem dX8_spells_7 : decode cX8_spells 7 = .ok (.putfield 211, 3) := by decide +kernel
theorem dX8_spells_10 : decode cX8_spells 10 = .ok (.aload_n 0, 1) := by decide +kernel
theorem dX8_spells_11 : decode cX8_spells 11 = .ok (.iconst (-1), 1) := by decide +kernel
theorem dX8_spells_12 : decode cX8_spells 12 = .ok (.putfield 208, 3) := by decide +kernel
theorem dX8_spells_15 : decode cX8_spells 15 = .ok (.aload_n 0, 1) := by decide +kernel
theorem dX8_spells_16 : decode cX8_spells 16 = .ok (.bipush 26, 2) := by decide +kernel
theorem dX8_spells_18 : decode cX8_spells 18 = .ok (.iconst 0, 1) := by decide +kernel
theorem dX8_spells_19 : decode cX8_spells 19 = .ok (.iconst (-1), 1) := by decide +kernel
theorem dX8_spells_20 : decode cX8_spells 20 = .ok (.invokevirtual 220, 3) := by decide +kernel
theorem dX8_spells_23 : decode cX8_spells 23 = .ok (.aload_n 0, 1) := by decide +kernel
theorem dX8_spells_24 : decode cX8_spells 24 = .ok (.getfield 208, 3) := by decide +kernel
theorem dX8_spells_27 : decode cX8_spells 27 = .ok (.ifCond .lt 133, 3) := by decide +kernel
theorem dX8_spells_30 : decode cX8_spells 30 = .ok (.aload_n 0, 1) := by decide +kernel
theorem dX8_spells_31 : decode cX8_spells 31 = .ok (.getfield 68, 3) := by decide +kernel
theorem dX8_spells_34 : decode cX8_spells 34 = .ok (.aload_n 0, 1) := by decide +kernel
theorem dX8_spells_35 : decode cX8_spells 35 = .ok (.getfield 208, 3) := by decide +kernel
theorem dX8_spells_38 : decode cX8_spells 38 = .ok (.iaload, 1) := by decide +kernel
theorem dX8_spells_39 : decode cX8_spells 39 = .ok (.aload_n 0, 1) := by decide +kernel
theorem dX8_spells_40 : decode cX8_spells 40 = .ok (.aload_n 0, 1) := by decide +kernel
theorem dX8_spells_41 : decode cX8_spells 41 = .ok (.getfield 65, 3) := by decide +kernel
theorem dX8_spells_44 : decode cX8_spells 44 = .ok (.aload_n 0, 1) := by decide +kernel
theorem dX8_spells_45 : decode cX8_spells 45 = .ok (.getfield 208, 3) := by decide +kernel
theorem dX8_spells_48 : decode cX8_spells 48 = .ok (.iaload, 1) := by decide +kernel
theorem dX8_spells_49 : decode cX8_spells 49 = .ok (.invokevirtual 191, 3) := by decide +kernel
theorem dX8_spells_52 : decode cX8_spells 52 = .ok (.if_icmp .ge 28, 3) := by decide +kernel
theorem dX8_spells_55 : decode cX8_spells 55 = .ok (.aload_n 0, 1) := by decide +kernel
theorem dX8_spells_56 : decode cX8_spells 56 = .ok (.aload_n 0, 1) := by decide +kernel
theorem dX8_spells_57 : decode cX8_spells 57 = .ok (.getfield 65, 3) := by decide +kernel
theorem dX8_spells_60 : decode cX8_spells 60 = .ok (.aload_n 0, 1) := by decide +kernel
theorem dX8_spells_61 : decode cX8_spells 61 = .ok (.getfield 208, 3) := by decide +kernel
theorem dX8_spells_64 : decode cX8_spells 64 = .ok (.iaload, 1) := by decide +kernel
theorem dX8_spells_65 : decode cX8_spells 65 = .ok (.aload_n 0, 1) := by decide +kernel
theorem dX8_spells_66 : decode cX8_spells 66 = .ok (.getfield 68, 3) := by decide +kernel
theorem dX8_spells_69 : decode cX8_spells 69 = .ok (.aload_n 0, 1) := by decide +kernel
theorem dX8_spells_70 : decode cX8_spells 70 = .ok (.getfield 208, 3) := by decide +kernel
theorem dX8_spells_73 : decode cX8_spells 73 = .ok (.iaload, 1) := by decide +kernel
theorem dX8_spells_74 : decode cX8_spells 74 = .ok (.invokevirtual 135, 3) := by decide +kernel
theorem dX8_spells_77 : decode cX8_spells 77 = .ok (.goto 5, 3) := by decide +kernel
theorem dX8_spells_80 : decode cX8_spells 80 = .ok (.bipush 41, 2) := by decide +kernel
theorem dX8_spells_82 : decode cX8_spells 82 = .ok (.istore_n 1, 1) := by decide +kernel
theorem dX8_spells_83 : decode cX8_spells 83 = .ok (.iload_n 1, 1) := by decide +kernel
theorem dX8_spells_84 : decode cX8_spells 84 = .ok (.bipush 44, 2) := by decide +kernel
theorem dX8_spells_86 : decode cX8_spells 86 = .ok (.if_icmp .eq 9, 3) := by decide +kernel
theorem dX8_spells_89 : decode cX8_spells 89 = .ok (.iload_n 1, 1) := by decide +kernel
theorem dX8_spells_90 : decode cX8_spells 90 = .ok (.bipush 41, 2) := by decide +kernel
theorem dX8_spells_92 : decode cX8_spells 92 = .ok (.if_icmp .ne 16, 3) := by decide +kernel
theorem dX8_spells_95 : decode cX8_spells 95 = .ok (.aload_n 0, 1) := by decide +kernel
theorem dX8_spells_96 : decode cX8_spells 96 = .ok (.dup, 1) := by decide +kernel
theorem dX8_spells_97 : decode cX8_spells 97 = .ok (.getfield 208, 3) := by decide +kernel
theorem dX8_spells_100 : decode cX8_spells 100 = .ok (.iconst 1, 1) := by decide +kernel
theorem dX8_spells_101 : decode cX8_spells 101 = .ok (.isub, 1) := by decide +kernel
theorem dX8_spells_102 : decode cX8_spells 102 = .ok (.putfield 208, 3) := by decide +kernel
theorem dX8_spells_105 : decode cX8_spells 105 = .ok (.goto 52, 3) := by decide +kernel
theorem dX8_spells_108 : decode cX8_spells 108 = .ok (.aload_n 0, 1) := by decide +kernel
theorem dX8_spells_109 : decode cX8_spells 109 = .ok (.getfield 68, 3) := by decide +kernel
theorem dX8_spells_112 : decode cX8_spells 112 = .ok (.aload_n 0, 1) := by decide +kernel
theorem dX8_spells_113 : decode cX8_spells 113 = .ok (.getfield 208, 3) := by decide +kernel
theorem dX8_spells_116 : decode cX8_spells 116 = .ok (.dup2, 1) := by decide +kernel
theorem dX8_spells_117 : decode cX8_spells 117 = .ok (.iaload, 1) := by decide +kernel
theorem dX8_spells_118 : decode cX8_spells 118 = .ok (.iconst 1, 1) := by decide +kernel
theorem dX8_spells_119 : decode cX8_spells 119 = .ok (.iadd, 1) := by decide +kernel
theorem dX8_spells_120 : decode cX8_spells 120 = .ok (.iastore, 1) := by decide +kernel
theorem dX8_spells_121 : decode cX8_spells 121 = .ok (.iload_n 1, 1) := by decide +kernel
theorem dX8_spells_122 : decode cX8_spells 122 = .ok (.invokestatic 125, 3) := by decide +kernel
theorem dX8_spells_125 : decode cX8_spells 125 = .ok (.ifCond .eq 14, 3) := by decide +kernel
theorem dX8_spells_128 : decode cX8_spells 128 = .ok (.aload_n 0, 1) := by decide +kernel
theorem dX8_spells_129 : decode cX8_spells 129 = .ok (.iload_n 1, 1) := by decide +kernel
theorem dX8_spells_130 : decode cX8_spells 130 = .ok (.bipush 65, 2) := by decide +kernel
theorem dX8_spells_132 : decode cX8_spells 132 = .ok (.isub, 1) := by decide +kernel
theorem dX8_spells_133 : decode cX8_spells 133 = .ok (.invokevirtual 224, 3) := by decide +kernel
theorem dX8_spells_136 : decode cX8_spells 136 = .ok (.goto 21, 3) := by decide +kernel
theorem dX8_spells_139 : decode cX8_spells 139 = .ok (.iload_n 1, 1) := by decide +kernel
theorem dX8_spells_140 : decode cX8_spells 140 = .ok (.bipush 63, 2) := by decide +kernel
theorem dX8_spells_142 : decode cX8_spells 142 = .ok (.if_icmp .ne 10, 3) := by decide +kernel
theorem dX8_spells_145 : decode cX8_spells 145 = .ok (.aload_n 0, 1) := by decide +kernel
theorem dX8_spells_146 : decode cX8_spells 146 = .ok (.invokevirtual 226, 3) := by decide +kernel
theorem dX8_spells_149 : decode cX8_spells 149 = .ok (.goto 8, 3) := by decide +kernel
theorem dX8_spells_152 : decode cX8_spells 152 = .ok (.aload_n 0, 1) := by decide +kernel
theorem dX8_spells_153 : decode cX8_spells 153 = .ok (.iload_n 1, 1) := by decide +kernel
theorem dX8_spells_154 : decode cX8_spells 154 = .ok (.invokevirtual 217, 3) := by decide +kernel
theorem dX8_spells_157 : decode cX8_spells 157 = .ok (.goto (-134), 3) := by decide +kernel
theorem dX8_spells_160 : decode cX8_spells 160 = .ok (.return_, 1) := by decide +kernel
theorem dX8_expand_0 : decode cX8_expand 0 = .ok (.aload_n 0, 1) := by decide +kernel
theorem dX8_expand_1 : decode cX8_expand 1 = .ok (.aload_n 0, 1) := by decide +kernel
theorem dX8_expand_2 : decode cX8_expand 2 = .ok (.invokevirtual 139, 3) := by decide +kernel
theorem dX8_expand_5 : decode cX8_expand 5 = .ok (.ifCond .eq 7, 3) := by decide +kernel
theorem dX8_expand_8 : decode cX8_expand 8 = .ok (.iconst 0, 1) := by decide +kernel
theorem dX8_expand_9 : decode cX8_expand 9 = .ok (.goto 4, 3) := by decide +kernel
theorem dX8_expand_12 : decode cX8_expand 12 = .ok (.iconst 1, 1) := by decide +kernel
theorem dX8_expand_13 : decode cX8_expand 13 = .ok (.invokevirtual 116, 3) := by decide +kernel
theorem dX8_expand_16 : decode cX8_expand 16 = .ok (.ifCond .eq 5, 3) := by decide +kernel
theorem dX8_expand_19 : decode cX8_expand 19 = .ok (.iconst 0, 1) := by decide +kernel
theorem dX8_expand_20 : decode cX8_expand 20 = .ok (.ireturn, 1) := by decide +kernel
theorem dX8_expand_21 : decode cX8_expand 21 = .ok (.aload_n 0, 1) := by decide +kernel
theorem dX8_expand_22 : decode cX8_expand 22 = .ok (.invokevirtual 143, 3) := by decide +kernel
theorem dX8_expand_25 : decode cX8_expand 25 = .ok (.aload_n 0, 1) := by decide +kernel
theorem dX8_expand_26 : decode cX8_expand 26 = .ok (.bipush 26, 2) := by decide +kernel
theorem dX8_expand_28 : decode cX8_expand 28 = .ok (.invokevirtual 229, 3) := by decide +kernel
theorem dX8_expand_31 : decode cX8_expand 31 = .ok (.aload_n 0, 1) := by decide +kernel
theorem dX8_expand_32 : decode cX8_expand 32 = .ok (.invokevirtual 232, 3) := by decide +kernel
theorem dX8_expand_35 : decode cX8_expand 35 = .ok (.ifCond .ne 17, 3) := by decide +kernel
theorem dX8_expand_38 : decode cX8_expand 38 = .ok (.aload_n 0, 1) := by decide +kernel
theorem dX8_expand_39 : decode cX8_expand 39 = .ok (.getfield 7, 3) := by decide +kernel
theorem dX8_expand_42 : decode cX8_expand 42 = .ok (.sipush 1791, 3) := by decide +kernel
theorem dX8_expand_45 : decode cX8_expand 45 = .ok (.dup2, 1) := by decide +kernel
theorem dX8_expand_46 : decode cX8_expand 46 = .ok (.iaload, 1) := by decide +kernel
theorem dX8_expand_47 : decode cX8_expand 47 = .ok (.iconst 1, 1) := by decide +kernel
theorem dX8_expand_48 : decode cX8_expand 48 = .ok (.iadd, 1) := by decide +kernel
theorem dX8_expand_49 : decode cX8_expand 49 = .ok (.iastore, 1) := by decide +kernel
theorem dX8_expand_50 : decode cX8_expand 50 = .ok (.iconst (-1), 1) := by decide +kernel
theorem dX8_expand_51 : decode cX8_expand 51 = .ok (.ireturn, 1) := by decide +kernel
theorem dX8_expand_52 : decode cX8_expand 52 = .ok (.iconst 0, 1) := by decide +kernel
theorem dX8_expand_53 : decode cX8_expand 53 = .ok (.istore_n 1, 1) := by decide +kernel
theorem dX8_expand_54 : decode cX8_expand 54 = .ok (.iload_n 1, 1) := by decide +kernel
theorem dX8_expand_55 : decode cX8_expand 55 = .ok (.sipush 360, 3) := by decide +kernel
theorem dX8_expand_58 : decode cX8_expand 58 = .ok (.if_icmp .ge 40, 3) := by decide +kernel
theorem dX8_expand_61 : decode cX8_expand 61 = .ok (.aload_n 0, 1) := by decide +kernel
theorem dX8_expand_62 : decode cX8_expand 62 = .ok (.getfield 7, 3) := by decide +kernel
theorem dX8_expand_65 : decode cX8_expand 65 = .ok (.sipush 1793, 3) := by decide +kernel
theorem dX8_expand_68 : decode cX8_expand 68 = .ok (.iload_n 1, 1) := by decide +kernel
theorem dX8_expand_69 : decode cX8_expand 69 = .ok (.iadd, 1) := by decide +kernel
theorem dX8_expand_70 : decode cX8_expand 70 = .ok (.iload_n 1, 1) := by decide +kernel
theorem dX8_expand_71 : decode cX8_expand 71 = .ok (.bipush 6, 2) := by decide +kernel
theorem dX8_expand_73 : decode cX8_expand 73 = .ok (.aload_n 0, 1) := by decide +kernel
theorem dX8_expand_74 : decode cX8_expand 74 = .ok (.getfield 163, 3) := by decide +kernel
theorem dX8_expand_77 : decode cX8_expand 77 = .ok (.imul, 1) := by decide +kernel
theorem dX8_expand_78 : decode cX8_expand 78 = .ok (.if_icmp .ge 12, 3) := by decide +kernel
theorem dX8_expand_81 : decode cX8_expand 81 = .ok (.aload_n 0, 1) := by decide +kernel
theorem dX8_expand_82 : decode cX8_expand 82 = .ok (.getfield 62, 3) := by decide +kernel
theorem dX8_expand_85 : decode cX8_expand 85 = .ok (.iload_n 1, 1) := by decide +kernel
theorem dX8_expand_86 : decode cX8_expand 86 = .ok (.iaload, 1) := by decide +kernel
theorem dX8_expand_87 : decode cX8_expand 87 = .ok (.goto 4, 3) := by decide +kernel
theorem dX8_expand_90 : decode cX8_expand 90 = .ok (.iconst 0, 1) := by decide +kernel
theorem dX8_expand_91 : decode cX8_expand 91 = .ok (.iastore, 1) := by decide +kernel
theorem dX8_expand_92 : decode cX8_expand 92 = .ok (.iinc 1 1, 3) := by decide +kernel
theorem dX8_expand_95 : decode cX8_expand 95 = .ok (.goto (-41), 3) := by decide +kernel
theorem dX8_expand_98 : decode cX8_expand 98 = .ok (.aload_n 0, 1) := by decide +kernel
theorem dX8_expand_99 : decode cX8_expand 99 = .ok (.getfield 7, 3) := by decide +kernel
theorem dX8_expand_102 : decode cX8_expand 102 = .ok (.sipush 1792, 3) := by decide +kernel
theorem dX8_expand_105 : decode cX8_expand 105 = .ok (.aload_n 0, 1) := by decide +kernel
theorem dX8_expand_106 : decode cX8_expand 106 = .ok (.getfield 163, 3) := by decide +kernel
theorem dX8_expand_109 : decode cX8_expand 109 = .ok (.iastore, 1) := by decide +kernel
theorem dX8_expand_110 : decode cX8_expand 110 = .ok (.aload_n 0, 1) := by decide +kernel
theorem dX8_expand_111 : decode cX8_expand 111 = .ok (.getfield 7, 3) := by decide +kernel
theorem dX8_expand_114 : decode cX8_expand 114 = .ok (.sipush 1788, 3) := by decide +kernel
theorem dX8_expand_117 : decode cX8_expand 117 = .ok (.aload_n 0, 1) := by decide +kernel
theorem dX8_expand_118 : decode cX8_expand 118 = .ok (.getfield 169, 3) := by decide +kernel
theorem dX8_expand_121 : decode cX8_expand 121 = .ok (.iastore, 1) := by decide +kernel
theorem dX8_expand_122 : decode cX8_expand 122 = .ok (.aload_n 0, 1) := by decide +kernel
theorem dX8_expand_123 : decode cX8_expand 123 = .ok (.getfield 7, 3) := by decide +kernel
theorem dX8_expand_126 : decode cX8_expand 126 = .ok (.sipush 1789, 3) := by decide +kernel
theorem dX8_expand_129 : decode cX8_expand 129 = .ok (.aload_n 0, 1) := by decide +kernel
theorem dX8_expand_130 : decode cX8_expand 130 = .ok (.getfield 172, 3) := by decide +kernel
theorem dX8_expand_133 : decode cX8_expand 133 = .ok (.iastore, 1) := by decide +kernel
theorem dX8_expand_134 : decode cX8_expand 134 = .ok (.aload_n 0, 1) := by decide +kernel
theorem dX8_expand_135 : decode cX8_expand 135 = .ok (.getfield 7, 3) := by decide +kernel
theorem dX8_expand_138 : decode cX8_expand 138 = .ok (.sipush 1790, 3) := by decide +kernel
theorem dX8_expand_141 : decode cX8_expand 141 = .ok (.dup2, 1) := by decide +kernel
theorem dX8_expand_142 : decode cX8_expand 142 = .ok (.iaload, 1) := by decide +kernel
theorem dX8_expand_143 : decode cX8_expand 143 = .ok (.iconst 1, 1) := by decide +kernel
theorem dX8_expand_144 : decode cX8_expand 144 = .ok (.iadd, 1) := by decide +kernel
theorem dX8_expand_145 : decode cX8_expand 145 = .ok (.iastore, 1) := by decide +kernel
theorem dX8_expand_146 : decode cX8_expand 146 = .ok (.aload_n 0, 1) := by decide +kernel
theorem dX8_expand_147 : decode cX8_expand 147 = .ok (.invokevirtual 235, 3) := by decide +kernel
theorem dX8_expand_150 : decode cX8_expand 150 = .ok (.aload_n 0, 1) := by decide +kernel
theorem dX8_expand_151 : decode cX8_expand 151 = .ok (.getfield 7, 3) := by decide +kernel
theorem dX8_expand_154 : decode cX8_expand 154 = .ok (.sipush 1587, 3) := by decide +kernel
theorem dX8_expand_157 : decode cX8_expand 157 = .ok (.aload_n 0, 1) := by decide +kernel
theorem dX8_expand_158 : decode cX8_expand 158 = .ok (.getfield 205, 3) := by decide +kernel
theorem dX8_expand_161 : decode cX8_expand 161 = .ok (.iastore, 1) := by decide +kernel
theorem dX8_expand_162 : decode cX8_expand 162 = .ok (.aload_n 0, 1) := by decide +kernel
theorem dX8_expand_163 : decode cX8_expand 163 = .ok (.getfield 205, 3) := by decide +kernel
theorem dX8_expand_166 : decode cX8_expand 166 = .ok (.ireturn, 1) := by decide +kernel
theorem dX8_undo_0 : decode cX8_undo 0 = .ok (.aload_n 0, 1) := by decide +kernel
theorem dX8_undo_1 : decode cX8_undo 1 = .ok (.aload_n 0, 1) := by decide +kernel
theorem dX8_undo_2 : decode cX8_undo 2 = .ok (.getfield 109, 3) := by decide +kernel
theorem dX8_undo_5 : decode cX8_undo 5 = .ok (.ifCond .ne 7, 3) := by decide +kernel
theorem dX8_undo_8 : decode cX8_undo 8 = .ok (.iconst 1, 1) := by decide +kernel
theorem dX8_undo_9 : decode cX8_undo 9 = .ok (.goto 4, 3) := by decide +kernel
theorem dX8_undo_12 : decode cX8_undo 12 = .ok (.iconst 0, 1) := by decide +kernel
theorem dX8_undo_13 : decode cX8_undo 13 = .ok (.invokevirtual 116, 3) := by decide +kernel
theorem dX8_undo_16 : decode cX8_undo 16 = .ok (.ifCond .eq 5, 3) := by decide +kernel
theorem dX8_undo_19 : decode cX8_undo 19 = .ok (.iconst 0, 1) := by decide +kernel
theorem dX8_undo_20 : decode cX8_undo 20 = .ok (.ireturn, 1) := by decide +kernel
theorem dX8_undo_21 : decode cX8_undo 21 = .ok (.aload_n 0, 1) := by decide +kernel
theorem dX8_undo_22 : decode cX8_undo 22 = .ok (.dup, 1) := by decide +kernel
theorem dX8_undo_23 : decode cX8_undo 23 = .ok (.getfield 109, 3) := by decide +kernel
theorem dX8_undo_26 : decode cX8_undo 26 = .ok (.iconst 1, 1) := by decide +kernel
theorem dX8_undo_27 : decode cX8_undo 27 = .ok (.isub, 1) := by decide +kernel
theorem dX8_undo_28 : decode cX8_undo 28 = .ok (.putfield 109, 3) := by decide +kernel
theorem dX8_undo_31 : decode cX8_undo 31 = .ok (.iconst 0, 1) := by decide +kernel
theorem dX8_undo_32 : decode cX8_undo 32 = .ok (.istore_n 1, 1) := by decide +kernel
theorem dX8_undo_33 : decode cX8_undo 33 = .ok (.iload_n 1, 1) := by decide +kernel
theorem dX8_undo_34 : decode cX8_undo 34 = .ok (.sipush 2153, 3) := by decide +kernel
theorem dX8_undo_37 : decode cX8_undo 37 = .ok (.if_icmp .ge 30, 3) := by decide +kernel
theorem dX8_undo_40 : decode cX8_undo 40 = .ok (.aload_n 0, 1) := by decide +kernel
theorem dX8_undo_41 : decode cX8_undo 41 = .ok (.getfield 7, 3) := by decide +kernel
theorem dX8_undo_44 : decode cX8_undo 44 = .ok (.iload_n 1, 1) := by decide +kernel
theorem dX8_undo_45 : decode cX8_undo 45 = .ok (.aload_n 0, 1) := by decide +kernel
theorem dX8_undo_46 : decode cX8_undo 46 = .ok (.getfield 13, 3) := by decide +kernel
theorem dX8_undo_49 : decode cX8_undo 49 = .ok (.sipush 2153, 3) := by decide +kernel
theorem dX8_undo_52 : decode cX8_undo 52 = .ok (.aload_n 0, 1) := by decide +kernel
theorem dX8_undo_53 : decode cX8_undo 53 = .ok (.getfield 109, 3) := by decide +kernel
theorem dX8_undo_56 : decode cX8_undo 56 = .ok (.imul, 1) := by decide +kernel
theorem dX8_undo_57 : decode cX8_undo 57 = .ok (.iload_n 1, 1) := by decide +kernel
theorem dX8_undo_58 : decode cX8_undo 58 = .ok (.iadd, 1) := by decide +kernel
theorem dX8_undo_59 : decode cX8_undo 59 = .ok (.iaload, 1) := by decide +kernel
theorem dX8_undo_60 : decode cX8_undo 60 = .ok (.iastore, 1) := by decide +kernel
theorem dX8_undo_61 : decode cX8_undo 61 = .ok (.iinc 1 1, 3) := by decide +kernel
theorem dX8_undo_64 : decode cX8_undo 64 = .ok (.goto (-31), 3) := by decide +kernel
theorem dX8_undo_67 : decode cX8_undo 67 = .ok (.aload_n 0, 1) := by decide +kernel
theorem dX8_undo_68 : decode cX8_undo 68 = .ok (.getfield 109, 3) := by decide +kernel
theorem dX8_undo_71 : decode cX8_undo 71 = .ok (.ireturn, 1) := by decide +kernel
theorem dX8_keep_0 : decode cX8_keep 0 = .ok (.aload_n 0, 1) := by decide +kernel
theorem dX8_keep_1 : decode cX8_keep 1 = .ok (.iload_n 1, 1) := by decide +kernel
theorem dX8_keep_2 : decode cX8_keep 2 = .ok (.iconst 0, 1) := by decide +kernel
theorem dX8_keep_3 : decode cX8_keep 3 = .ok (.iconst 1, 1) := by decide +kernel
theorem dX8_keep_4 : decode cX8_keep 4 = .ok (.invokestatic 102, 3) := by decide +kernel
theorem dX8_keep_7 : decode cX8_keep 7 = .ok (.ifCond .eq 7, 3) := by decide +kernel
theorem dX8_keep_10 : decode cX8_keep 10 = .ok (.iconst 0, 1) := by decide +kernel
theorem dX8_keep_11 : decode cX8_keep 11 = .ok (.goto 4, 3) := by decide +kernel
theorem dX8_keep_14 : decode cX8_keep 14 = .ok (.iconst 1, 1) := by decide +kernel
theorem dX8_keep_15 : decode cX8_keep 15 = .ok (.invokevirtual 116, 3) := by decide +kernel
theorem dX8_keep_18 : decode cX8_keep 18 = .ok (.ifCond .eq 5, 3) := by decide +kernel
theorem dX8_keep_21 : decode cX8_keep 21 = .ok (.iconst 0, 1) := by decide +kernel
theorem dX8_keep_22 : decode cX8_keep 22 = .ok (.ireturn, 1) := by decide +kernel
theorem dX8_keep_23 : decode cX8_keep 23 = .ok (.iconst 0, 1) := by decide +kernel
theorem dX8_keep_24 : decode cX8_keep 24 = .ok (.istore_n 2, 1) := by decide +kernel
theorem dX8_keep_25 : decode cX8_keep 25 = .ok (.iload_n 2, 1) := by decide +kernel
theorem dX8_keep_26 : decode cX8_keep 26 = .ok (.sipush 2153, 3) := by decide +kernel
theorem dX8_keep_29 : decode cX8_keep 29 = .ok (.if_icmp .ge 27, 3) := by decide +kernel
theorem dX8_keep_32 : decode cX8_keep 32 = .ok (.aload_n 0, 1) := by decide +kernel
theorem dX8_keep_33 : decode cX8_keep 33 = .ok (.getfield 16, 3) := by decide +kernel
theorem dX8_keep_36 : decode cX8_keep 36 = .ok (.sipush 2153, 3) := by decide +kernel
theorem dX8_keep_39 : decode cX8_keep 39 = .ok (.iload_n 1, 1) := by decide +kernel
theorem dX8_keep_40 : decode cX8_keep 40 = .ok (.imul, 1) := by decide +kernel
theorem dX8_keep_41 : decode cX8_keep 41 = .ok (.iload_n 2, 1) := by decide +kernel
theorem dX8_keep_42 : decode cX8_keep 42 = .ok (.iadd, 1) := by decide +kernel
theorem dX8_keep_43 : decode cX8_keep 43 = .ok (.aload_n 0, 1) := by decide +kernel
theorem dX8_keep_44 : decode cX8_keep 44 = .ok (.getfield 7, 3) := by decide +kernel
theorem dX8_keep_47 : decode cX8_keep 47 = .ok (.iload_n 2, 1) := by decide +kernel
theorem dX8_keep_48 : decode cX8_keep 48 = .ok (.iaload, 1) := by decide +kernel
theorem dX8_keep_49 : decode cX8_keep 49 = .ok (.iastore, 1) := by decide +kernel
theorem dX8_keep_50 : decode cX8_keep 50 = .ok (.iinc 2 1, 3) := by decide +kernel
theorem dX8_keep_53 : decode cX8_keep 53 = .ok (.goto (-28), 3) := by decide +kernel
theorem dX8_keep_56 : decode cX8_keep 56 = .ok (.aload_n 0, 1) := by decide +kernel
theorem dX8_keep_57 : decode cX8_keep 57 = .ok (.getfield 19, 3) := by decide +kernel
theorem dX8_keep_60 : decode cX8_keep 60 = .ok (.iload_n 1, 1) := by decide +kernel
theorem dX8_keep_61 : decode cX8_keep 61 = .ok (.iconst 1, 1) := by decide +kernel
theorem dX8_keep_62 : decode cX8_keep 62 = .ok (.bastore, 1) := by decide +kernel
theorem dX8_keep_63 : decode cX8_keep 63 = .ok (.aload_n 0, 1) := by decide +kernel
theorem dX8_keep_64 : decode cX8_keep 64 = .ok (.invokevirtual 153, 3) := by decide +kernel
theorem dX8_keep_67 : decode cX8_keep 67 = .ok (.ireturn, 1) := by decide +kernel
theorem dX8_goBack_0 : decode cX8_goBack 0 = .ok (.aload_n 0, 1) := by decide +kernel
theorem dX8_goBack_1 : decode cX8_goBack 1 = .ok (.iload_n 1, 1) := by decide +kernel
theorem dX8_goBack_2 : decode cX8_goBack 2 = .ok (.iconst 0, 1) := by decide +kernel
theorem dX8_goBack_3 : decode cX8_goBack 3 = .ok (.iconst 1, 1) := by decide +kernel
theorem dX8_goBack_4 : decode cX8_goBack 4 = .ok (.invokestatic 102, 3) := by decide +kernel
theorem dX8_goBack_7 : decode cX8_goBack 7 = .ok (.ifCond .ne 7, 3) := by decide +kernel
theorem dX8_goBack_10 : decode cX8_goBack 10 = .ok (.iconst 1, 1) := by decide +kernel
theorem dX8_goBack_11 : decode cX8_goBack 11 = .ok (.goto 17, 3) := by decide +kernel
theorem dX8_goBack_14 : decode cX8_goBack 14 = .ok (.aload_n 0, 1) := by decide +kernel
theorem dX8_goBack_15 : decode cX8_goBack 15 = .ok (.getfield 19, 3) := by decide +kernel
theorem dX8_goBack_18 : decode cX8_goBack 18 = .ok (.iload_n 1, 1) := by decide +kernel
theorem dX8_goBack_19 : decode cX8_goBack 19 = .ok (.baload, 1) := by decide +kernel
theorem dX8_goBack_20 : decode cX8_goBack 20 = .ok (.ifCond .eq 7, 3) := by decide +kernel
theorem dX8_goBack_23 : decode cX8_goBack 23 = .ok (.iconst 0, 1) := by decide +kernel
theorem dX8_goBack_24 : decode cX8_goBack 24 = .ok (.goto 4, 3) := by decide +kernel
theorem dX8_goBack_27 : decode cX8_goBack 27 = .ok (.iconst 2, 1) := by decide +kernel
theorem dX8_goBack_28 : decode cX8_goBack 28 = .ok (.invokevirtual 116, 3) := by decide +kernel
theorem dX8_goBack_31 : decode cX8_goBack 31 = .ok (.ifCond .eq 5, 3) := by decide +kernel
theorem dX8_goBack_34 : decode cX8_goBack 34 = .ok (.iconst 0, 1) := by decide +kernel
theorem dX8_goBack_35 : decode cX8_goBack 35 = .ok (.ireturn, 1) := by decide +kernel
theorem dX8_goBack_36 : decode cX8_goBack 36 = .ok (.aload_n 0, 1) := by decide +kernel
theorem dX8_goBack_37 : decode cX8_goBack 37 = .ok (.invokevirtual 143, 3) := by decide +kernel
theorem dX8_goBack_40 : decode cX8_goBack 40 = .ok (.iconst 0, 1) := by decide +kernel
theorem dX8_goBack_41 : decode cX8_goBack 41 = .ok (.istore_n 2, 1) := by decide +kernel
theorem dX8_goBack_42 : decode cX8_goBack 42 = .ok (.iload_n 2, 1) := by decide +kernel
theorem dX8_goBack_43 : decode cX8_goBack 43 = .ok (.sipush 2153, 3) := by decide +kernel
theorem dX8_goBack_46 : decode cX8_goBack 46 = .ok (.if_icmp .ge 27, 3) := by decide +kernel
theorem dX8_goBack_49 : decode cX8_goBack 49 = .ok (.aload_n 0, 1) := by decide +kernel
theorem dX8_goBack_50 : decode cX8_goBack 50 = .ok (.getfield 7, 3) := by decide +kernel
theorem dX8_goBack_53 : decode cX8_goBack 53 = .ok (.iload_n 2, 1) := by decide +kernel
theorem dX8_goBack_54 : decode cX8_goBack 54 = .ok (.aload_n 0, 1) := by decide +kernel
theorem dX8_goBack_55 : decode cX8_goBack 55 = .ok (.getfield 16, 3) := by decide +kernel
theorem dX8_goBack_58 : decode cX8_goBack 58 = .ok (.sipush 2153, 3) := by decide +kernel
theorem dX8_goBack_61 : decode cX8_goBack 61 = .ok (.iload_n 1, 1) := by decide +kernel
theorem dX8_goBack_62 : decode cX8_goBack 62 = .ok (.imul, 1) := by decide +kernel
theorem dX8_goBack_63 : decode cX8_goBack 63 = .ok (.iload_n 2, 1) := by decide +kernel
theorem dX8_goBack_64 : decode cX8_goBack 64 = .ok (.iadd, 1) := by decide +kernel
theorem dX8_goBack_65 : decode cX8_goBack 65 = .ok (.iaload, 1) := by decide +kernel
theorem dX8_goBack_66 : decode cX8_goBack 66 = .ok (.iastore, 1) := by decide +kernel
theorem dX8_goBack_67 : decode cX8_goBack 67 = .ok (.iinc 2 1, 3) := by decide +kernel
theorem dX8_goBack_70 : decode cX8_goBack 70 = .ok (.goto (-28), 3) := by decide +kernel
theorem dX8_goBack_73 : decode cX8_goBack 73 = .ok (.aload_n 0, 1) := by decide +kernel
theorem dX8_goBack_74 : decode cX8_goBack 74 = .ok (.invokevirtual 153, 3) := by decide +kernel
theorem dX8_goBack_77 : decode cX8_goBack 77 = .ok (.ireturn, 1) := by decide +kernel
theorem dX8_callsOf_0 : decode cX8_callsOf 0 = .ok (.iconst 0, 1) := by decide +kernel
theorem dX8_callsOf_1 : decode cX8_callsOf 1 = .ok (.istore_n 2, 1) := by decide +kernel
theorem dX8_callsOf_2 : decode cX8_callsOf 2 = .ok (.iconst 0, 1) := by decide +kernel
theorem dX8_callsOf_3 : decode cX8_callsOf 3 = .ok (.istore_n 3, 1) := by decide +kernel
theorem dX8_callsOf_4 : decode cX8_callsOf 4 = .ok (.iload_n 3, 1) := by decide +kernel
theorem dX8_callsOf_5 : decode cX8_callsOf 5 = .ok (.aload_n 0, 1) := by decide +kernel
theorem dX8_callsOf_6 : decode cX8_callsOf 6 = .ok (.getfield 7, 3) := by decide +kernel
theorem dX8_callsOf_9 : decode cX8_callsOf 9 = .ok (.iload_n 1, 1) := by decide +kernel
theorem dX8_callsOf_10 : decode cX8_callsOf 10 = .ok (.iaload, 1) := by decide +kernel
theorem dX8_callsOf_11 : decode cX8_callsOf 11 = .ok (.if_icmp .ge 29, 3) := by decide +kernel
theorem dX8_callsOf_14 : decode cX8_callsOf 14 = .ok (.iload_n 2, 1) := by decide +kernel
theorem dX8_callsOf_15 : decode cX8_callsOf 15 = .ok (.aload_n 0, 1) := by decide +kernel
theorem dX8_callsOf_16 : decode cX8_callsOf 16 = .ok (.iload_n 1, 1) := by decide +kernel
theorem dX8_callsOf_17 : decode cX8_callsOf 17 = .ok (.iload_n 3, 1) := by decide +kernel
theorem dX8_callsOf_18 : decode cX8_callsOf 18 = .ok (.invokevirtual 135, 3) := by decide +kernel
theorem dX8_callsOf_21 : decode cX8_callsOf 21 = .ok (.invokestatic 125, 3) := by decide +kernel
theorem dX8_callsOf_24 : decode cX8_callsOf 24 = .ok (.ifCond .eq 7, 3) := by decide +kernel
theorem dX8_callsOf_27 : decode cX8_callsOf 27 = .ok (.iconst 1, 1) := by decide +kernel
theorem dX8_callsOf_28 : decode cX8_callsOf 28 = .ok (.goto 4, 3) := by decide +kernel
theorem dX8_callsOf_31 : decode cX8_callsOf 31 = .ok (.iconst 0, 1) := by decide +kernel
theorem dX8_callsOf_32 : decode cX8_callsOf 32 = .ok (.iadd, 1) := by decide +kernel
theorem dX8_callsOf_33 : decode cX8_callsOf 33 = .ok (.istore_n 2, 1) := by decide +kernel
theorem dX8_callsOf_34 : decode cX8_callsOf 34 = .ok (.iinc 3 1, 3) := by decide +kernel
