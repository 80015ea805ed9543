theorem dX8_callsOf_37 : decode cX8_callsOf 37 = .ok (.goto (-33), 3) := by decide +kernel
theorem dX8_callsOf_40 : decode cX8_callsOf 40 = .ok (.iload_n 2, 1) := by decide +kernel
theorem dX8_callsOf_41 : decode cX8_callsOf 41 = .ok (.ireturn, 1) := by decide +kernel
theorem dX8_plainOf_0 : decode cX8_plainOf 0 = .ok (.iconst 0, 1) := by decide +kernel
theorem dX8_plainOf_1 : decode cX8_plainOf 1 = .ok (.istore_n 2, 1) := by decide +kernel
theorem dX8_plainOf_2 : decode cX8_plainOf 2 = .ok (.iconst 0, 1) := by decide +kernel
theorem dX8_plainOf_3 : decode cX8_plainOf 3 = .ok (.istore_n 3, 1) := by decide +kernel
theorem dX8_plainOf_4 : decode cX8_plainOf 4 = .ok (.iload_n 3, 1) := by decide +kernel
theorem dX8_plainOf_5 : decode cX8_plainOf 5 = .ok (.aload_n 0, 1) := by decide +kernel
theorem dX8_plainOf_6 : decode cX8_plainOf 6 = .ok (.getfield 7, 3) := by decide +kernel
theorem dX8_plainOf_9 : decode cX8_plainOf 9 = .ok (.iload_n 1, 1) := by decide +kernel
theorem dX8_plainOf_10 : decode cX8_plainOf 10 = .ok (.iaload, 1) := by decide +kernel
theorem dX8_plainOf_11 : decode cX8_plainOf 11 = .ok (.if_icmp .ge 29, 3) := by decide +kernel
theorem dX8_plainOf_14 : decode cX8_plainOf 14 = .ok (.iload_n 2, 1) := by decide +kernel
theorem dX8_plainOf_15 : decode cX8_plainOf 15 = .ok (.aload_n 0, 1) := by decide +kernel
theorem dX8_plainOf_16 : decode cX8_plainOf 16 = .ok (.iload_n 1, 1) := by decide +kernel
theorem dX8_plainOf_17 : decode cX8_plainOf 17 = .ok (.iload_n 3, 1) := by decide +kernel
theorem dX8_plainOf_18 : decode cX8_plainOf 18 = .ok (.invokevirtual 135, 3) := by decide +kernel
theorem dX8_plainOf_21 : decode cX8_plainOf 21 = .ok (.invokestatic 122, 3) := by decide +kernel
theorem dX8_plainOf_24 : decode cX8_plainOf 24 = .ok (.ifCond .eq 7, 3) := by decide +kernel
theorem dX8_plainOf_27 : decode cX8_plainOf 27 = .ok (.iconst 1, 1) := by decide +kernel
theorem dX8_plainOf_28 : decode cX8_plainOf 28 = .ok (.goto 4, 3) := by decide +kernel
theorem dX8_plainOf_31 : decode cX8_plainOf 31 = .ok (.iconst 0, 1) := by decide +kernel
theorem dX8_plainOf_32 : decode cX8_plainOf 32 = .ok (.iadd, 1) := by decide +kernel
theorem dX8_plainOf_33 : decode cX8_plainOf 33 = .ok (.istore_n 2, 1) := by decide +kernel
theorem dX8_plainOf_34 : decode cX8_plainOf 34 = .ok (.iinc 3 1, 3) := by decide +kernel
theorem dX8_plainOf_37 : decode cX8_plainOf 37 = .ok (.goto (-33), 3) := by decide +kernel
theorem dX8_plainOf_40 : decode cX8_plainOf 40 = .ok (.iload_n 2, 1) := by decide +kernel
theorem dX8_plainOf_41 : decode cX8_plainOf 41 = .ok (.ireturn, 1) := by decide +kernel
theorem dX8_mostOf_0 : decode cX8_mostOf 0 = .ok (.iconst 0, 1) := by decide +kernel
theorem dX8_mostOf_1 : decode cX8_mostOf 1 = .ok (.istore_n 3, 1) := by decide +kernel
theorem dX8_mostOf_2 : decode cX8_mostOf 2 = .ok (.iconst 0, 1) := by decide +kernel
theorem dX8_mostOf_3 : decode cX8_mostOf 3 = .ok (.istore 4, 2) := by decide +kernel
theorem dX8_mostOf_5 : decode cX8_mostOf 5 = .ok (.iconst 0, 1) := by decide +kernel
theorem dX8_mostOf_6 : decode cX8_mostOf 6 = .ok (.istore 5, 2) := by decide +kernel
theorem dX8_mostOf_8 : decode cX8_mostOf 8 = .ok (.iconst 0, 1) := by decide +kernel
theorem dX8_mostOf_9 : decode cX8_mostOf 9 = .ok (.istore 6, 2) := by decide +kernel
theorem dX8_mostOf_11 : decode cX8_mostOf 11 = .ok (.iload 6, 2) := by decide +kernel
theorem dX8_mostOf_13 : decode cX8_mostOf 13 = .ok (.aload_n 0, 1) := by decide +kernel
theorem dX8_mostOf_14 : decode cX8_mostOf 14 = .ok (.getfield 7, 3) := by decide +kernel
theorem dX8_mostOf_17 : decode cX8_mostOf 17 = .ok (.iload_n 1, 1) := by decide +kernel
theorem dX8_mostOf_18 : decode cX8_mostOf 18 = .ok (.iaload, 1) := by decide +kernel
theorem dX8_mostOf_19 : decode cX8_mostOf 19 = .ok (.if_icmp .ge 117, 3) := by decide +kernel
theorem dX8_mostOf_22 : decode cX8_mostOf 22 = .ok (.aload_n 0, 1) := by decide +kernel
theorem dX8_mostOf_23 : decode cX8_mostOf 23 = .ok (.iload_n 1, 1) := by decide +kernel
theorem dX8_mostOf_24 : decode cX8_mostOf 24 = .ok (.iload 6, 2) := by decide +kernel
theorem dX8_mostOf_26 : decode cX8_mostOf 26 = .ok (.invokevirtual 135, 3) := by decide +kernel
theorem dX8_mostOf_29 : decode cX8_mostOf 29 = .ok (.istore 7, 2) := by decide +kernel
theorem dX8_mostOf_31 : decode cX8_mostOf 31 = .ok (.iload 7, 2) := by decide +kernel
theorem dX8_mostOf_33 : decode cX8_mostOf 33 = .ok (.invokestatic 125, 3) := by decide +kernel
theorem dX8_mostOf_36 : decode cX8_mostOf 36 = .ok (.ifCond .eq 23, 3) := by decide +kernel
theorem dX8_mostOf_39 : decode cX8_mostOf 39 = .ok (.iload 5, 2) := by decide +kernel
theorem dX8_mostOf_41 : decode cX8_mostOf 41 = .ok (.iconst 1, 1) := by decide +kernel
theorem dX8_mostOf_42 : decode cX8_mostOf 42 = .ok (.iadd, 1) := by decide +kernel
theorem dX8_mostOf_43 : decode cX8_mostOf 43 = .ok (.iload 4, 2) := by decide +kernel
theorem dX8_mostOf_45 : decode cX8_mostOf 45 = .ok (.if_icmp .le 10, 3) := by decide +kernel
theorem dX8_mostOf_48 : decode cX8_mostOf 48 = .ok (.iload 5, 2) := by decide +kernel
theorem dX8_mostOf_50 : decode cX8_mostOf 50 = .ok (.iconst 1, 1) := by decide +kernel
theorem dX8_mostOf_51 : decode cX8_mostOf 51 = .ok (.iadd, 1) := by decide +kernel
theorem dX8_mostOf_52 : decode cX8_mostOf 52 = .ok (.goto 5, 3) := by decide +kernel
theorem dX8_mostOf_55 : decode cX8_mostOf 55 = .ok (.iload 4, 2) := by decide +kernel
theorem dX8_mostOf_57 : decode cX8_mostOf 57 = .ok (.istore 4, 2) := by decide +kernel
theorem dX8_mostOf_59 : decode cX8_mostOf 59 = .ok (.iload 7, 2) := by decide +kernel
theorem dX8_mostOf_61 : decode cX8_mostOf 61 = .ok (.bipush 40, 2) := by decide +kernel
theorem dX8_mostOf_63 : decode cX8_mostOf 63 = .ok (.if_icmp .ne 14, 3) := by decide +kernel
theorem dX8_mostOf_66 : decode cX8_mostOf 66 = .ok (.aload_n 0, 1) := by decide +kernel
theorem dX8_mostOf_67 : decode cX8_mostOf 67 = .ok (.getfield 26, 3) := by decide +kernel
theorem dX8_mostOf_70 : decode cX8_mostOf 70 = .ok (.iload 5, 2) := by decide +kernel
theorem dX8_mostOf_72 : decode cX8_mostOf 72 = .ok (.iconst 1, 1) := by decide +kernel
theorem dX8_mostOf_73 : decode cX8_mostOf 73 = .ok (.iastore, 1) := by decide +kernel
theorem dX8_mostOf_74 : decode cX8_mostOf 74 = .ok (.iinc 5 1, 3) := by decide +kernel
theorem dX8_mostOf_77 : decode cX8_mostOf 77 = .ok (.iload 7, 2) := by decide +kernel
theorem dX8_mostOf_79 : decode cX8_mostOf 79 = .ok (.bipush 44, 2) := by decide +kernel
theorem dX8_mostOf_81 : decode cX8_mostOf 81 = .ok (.if_icmp .ne 16, 3) := by decide +kernel
theorem dX8_mostOf_84 : decode cX8_mostOf 84 = .ok (.aload_n 0, 1) := by decide +kernel
theorem dX8_mostOf_85 : decode cX8_mostOf 85 = .ok (.getfield 26, 3) := by decide +kernel
theorem dX8_mostOf_88 : decode cX8_mostOf 88 = .ok (.iload 5, 2) := by decide +kernel
theorem dX8_mostOf_90 : decode cX8_mostOf 90 = .ok (.iconst 1, 1) := by decide +kernel
theorem dX8_mostOf_91 : decode cX8_mostOf 91 = .ok (.isub, 1) := by decide +kernel
theorem dX8_mostOf_92 : decode cX8_mostOf 92 = .ok (.dup2, 1) := by decide +kernel
theorem dX8_mostOf_93 : decode cX8_mostOf 93 = .ok (.iaload, 1) := by decide +kernel
theorem dX8_mostOf_94 : decode cX8_mostOf 94 = .ok (.iconst 1, 1) := by decide +kernel
theorem dX8_mostOf_95 : decode cX8_mostOf 95 = .ok (.iadd, 1) := by decide +kernel
theorem dX8_mostOf_96 : decode cX8_mostOf 96 = .ok (.iastore, 1) := by decide +kernel
theorem dX8_mostOf_97 : decode cX8_mostOf 97 = .ok (.iload 7, 2) := by decide +kernel
theorem dX8_mostOf_99 : decode cX8_mostOf 99 = .ok (.bipush 41, 2) := by decide +kernel
theorem dX8_mostOf_101 : decode cX8_mostOf 101 = .ok (.if_icmp .ne 29, 3) := by decide +kernel
theorem dX8_mostOf_104 : decode cX8_mostOf 104 = .ok (.iinc 5 (-1), 3) := by decide +kernel
theorem dX8_mostOf_107 : decode cX8_mostOf 107 = .ok (.aload_n 0, 1) := by decide +kernel
theorem dX8_mostOf_108 : decode cX8_mostOf 108 = .ok (.getfield 26, 3) := by decide +kernel
theorem dX8_mostOf_111 : decode cX8_mostOf 111 = .ok (.iload 5, 2) := by decide +kernel
theorem dX8_mostOf_113 : decode cX8_mostOf 113 = .ok (.iaload, 1) := by decide +kernel
theorem dX8_mostOf_114 : decode cX8_mostOf 114 = .ok (.iload_n 3, 1) := by decide +kernel
theorem dX8_mostOf_115 : decode cX8_mostOf 115 = .ok (.if_icmp .le 13, 3) := by decide +kernel
theorem dX8_mostOf_118 : decode cX8_mostOf 118 = .ok (.aload_n 0, 1) := by decide +kernel
theorem dX8_mostOf_119 : decode cX8_mostOf 119 = .ok (.getfield 26, 3) := by decide +kernel
theorem dX8_mostOf_122 : decode cX8_mostOf 122 = .ok (.iload 5, 2) := by decide +kernel
theorem dX8_mostOf_124 : decode cX8_mostOf 124 = .ok (.iaload, 1) := by decide +kernel
theorem dX8_mostOf_125 : decode cX8_mostOf 125 = .ok (.goto 4, 3) := by decide +kernel
theorem dX8_mostOf_128 : decode cX8_mostOf 128 = .ok (.iload_n 3, 1) := by decide +kernel
theorem dX8_mostOf_129 : decode cX8_mostOf 129 = .ok (.istore_n 3, 1) := by decide +kernel
theorem dX8_mostOf_130 : decode cX8_mostOf 130 = .ok (.iinc 6 1, 3) := by decide +kernel
theorem dX8_mostOf_133 : decode cX8_mostOf 133 = .ok (.goto (-122), 3) := by decide +kernel
theorem dX8_mostOf_136 : decode cX8_mostOf 136 = .ok (.iload_n 2, 1) := by decide +kernel
theorem dX8_mostOf_137 : decode cX8_mostOf 137 = .ok (.ifCond .eq 7, 3) := by decide +kernel
theorem dX8_mostOf_140 : decode cX8_mostOf 140 = .ok (.iload_n 3, 1) := by decide +kernel
theorem dX8_mostOf_141 : decode cX8_mostOf 141 = .ok (.goto 5, 3) := by decide +kernel
theorem dX8_mostOf_144 : decode cX8_mostOf 144 = .ok (.iload 4, 2) := by decide +kernel
theorem dX8_mostOf_146 : decode cX8_mostOf 146 = .ok (.ireturn, 1) := by decide +kernel
theorem dX8_body_0 : decode cX8_body 0 = .ok (.aload_n 0, 1) := by decide +kernel
theorem dX8_body_1 : decode cX8_body 1 = .ok (.iload_n 1, 1) := by decide +kernel
theorem dX8_body_2 : decode cX8_body 2 = .ok (.invokestatic 132, 3) := by decide +kernel
theorem dX8_body_5 : decode cX8_body 5 = .ok (.ifCond .ne 7, 3) := by decide +kernel
theorem dX8_body_8 : decode cX8_body 8 = .ok (.iconst 1, 1) := by decide +kernel
theorem dX8_body_9 : decode cX8_body 9 = .ok (.goto 17, 3) := by decide +kernel
theorem dX8_body_12 : decode cX8_body 12 = .ok (.iload_n 2, 1) := by decide +kernel
theorem dX8_body_13 : decode cX8_body 13 = .ok (.iconst 0, 1) := by decide +kernel
theorem dX8_body_14 : decode cX8_body 14 = .ok (.iconst 5, 1) := by decide +kernel
theorem dX8_body_15 : decode cX8_body 15 = .ok (.invokestatic 102, 3) := by decide +kernel
theorem dX8_body_18 : decode cX8_body 18 = .ok (.ifCond .eq 7, 3) := by decide +kernel
theorem dX8_body_21 : decode cX8_body 21 = .ok (.iconst 0, 1) := by decide +kernel
theorem dX8_body_22 : decode cX8_body 22 = .ok (.goto 4, 3) := by decide +kernel
theorem dX8_body_25 : decode cX8_body 25 = .ok (.iconst 2, 1) := by decide +kernel
theorem dX8_body_26 : decode cX8_body 26 = .ok (.invokevirtual 116, 3) := by decide +kernel
theorem dX8_body_29 : decode cX8_body 29 = .ok (.ifCond .eq 5, 3) := by decide +kernel
theorem dX8_body_32 : decode cX8_body 32 = .ok (.iconst 0, 1) := by decide +kernel
theorem dX8_body_33 : decode cX8_body 33 = .ok (.ireturn, 1) := by decide +kernel
theorem dX8_body_34 : decode cX8_body 34 = .ok (.aload_n 0, 1) := by decide +kernel
theorem dX8_body_35 : decode cX8_body 35 = .ok (.iload_n 1, 1) := by decide +kernel
theorem dX8_body_36 : decode cX8_body 36 = .ok (.invokevirtual 112, 3) := by decide +kernel
theorem dX8_body_39 : decode cX8_body 39 = .ok (.ifCond .ne 5, 3) := by decide +kernel
theorem dX8_body_42 : decode cX8_body 42 = .ok (.iconst (-1), 1) := by decide +kernel
theorem dX8_body_43 : decode cX8_body 43 = .ok (.ireturn, 1) := by decide +kernel
theorem dX8_body_44 : decode cX8_body 44 = .ok (.iload_n 2, 1) := by decide +kernel
theorem dX8_body_45 : decode cX8_body 45 = .ok (.tableswitch 74 0 4 #[35, 42, 54, 60, 67], 35) := by decide +kernel
theorem dX8_body_80 : decode cX8_body 80 = .ok (.aload_n 0, 1) := by decide +kernel
theorem dX8_body_81 : decode cX8_body 81 = .ok (.getfield 7, 3) := by decide +kernel
theorem dX8_body_84 : decode cX8_body 84 = .ok (.iload_n 1, 1) := by decide +kernel
theorem dX8_body_85 : decode cX8_body 85 = .ok (.iaload, 1) := by decide +kernel
theorem dX8_body_86 : decode cX8_body 86 = .ok (.ireturn, 1) := by decide +kernel
theorem dX8_body_87 : decode cX8_body 87 = .ok (.aload_n 0, 1) := by decide +kernel
theorem dX8_body_88 : decode cX8_body 88 = .ok (.iload_n 1, 1) := by decide +kernel
theorem dX8_body_89 : decode cX8_body 89 = .ok (.aload_n 0, 1) := by decide +kernel
theorem dX8_body_90 : decode cX8_body 90 = .ok (.getfield 7, 3) := by decide +kernel
theorem dX8_body_93 : decode cX8_body 93 = .ok (.iload_n 1, 1) := by decide +kernel
theorem dX8_body_94 : decode cX8_body 94 = .ok (.iaload, 1) := by decide +kernel
theorem dX8_body_95 : decode cX8_body 95 = .ok (.invokevirtual 150, 3) := by decide +kernel
theorem dX8_body_98 : decode cX8_body 98 = .ok (.ireturn, 1) := by decide +kernel
theorem dX8_body_99 : decode cX8_body 99 = .ok (.aload_n 0, 1) := by decide +kernel
theorem dX8_body_100 : decode cX8_body 100 = .ok (.iload_n 1, 1) := by decide +kernel
theorem dX8_body_101 : decode cX8_body 101 = .ok (.invokevirtual 238, 3) := by decide +kernel
theorem dX8_body_104 : decode cX8_body 104 = .ok (.ireturn, 1) := by decide +kernel
theorem dX8_body_105 : decode cX8_body 105 = .ok (.aload_n 0, 1) := by decide +kernel
theorem dX8_body_106 : decode cX8_body 106 = .ok (.iload_n 1, 1) := by decide +kernel
theorem dX8_body_107 : decode cX8_body 107 = .ok (.iconst 1, 1) := by decide +kernel
theorem dX8_body_108 : decode cX8_body 108 = .ok (.invokevirtual 241, 3) := by decide +kernel
theorem dX8_body_111 : decode cX8_body 111 = .ok (.ireturn, 1) := by decide +kernel
theorem dX8_body_112 : decode cX8_body 112 = .ok (.aload_n 0, 1) := by decide +kernel
theorem dX8_body_113 : decode cX8_body 113 = .ok (.iload_n 1, 1) := by decide +kernel
theorem dX8_body_114 : decode cX8_body 114 = .ok (.iconst 0, 1) := by decide +kernel
theorem dX8_body_115 : decode cX8_body 115 = .ok (.invokevirtual 241, 3) := by decide +kernel
theorem dX8_body_118 : decode cX8_body 118 = .ok (.ireturn, 1) := by decide +kernel
theorem dX8_body_119 : decode cX8_body 119 = .ok (.aload_n 0, 1) := by decide +kernel
theorem dX8_body_120 : decode cX8_body 120 = .ok (.iload_n 1, 1) := by decide +kernel
theorem dX8_body_121 : decode cX8_body 121 = .ok (.invokevirtual 245, 3) := by decide +kernel
theorem dX8_body_124 : decode cX8_body 124 = .ok (.ireturn, 1) := by decide +kernel
theorem dX8_called_0 : decode cX8_called 0 = .ok (.iconst 0, 1) := by decide +kernel
theorem dX8_called_1 : decode cX8_called 1 = .ok (.istore_n 2, 1) := by decide +kernel
theorem dX8_called_2 : decode cX8_called 2 = .ok (.iconst 0, 1) := by decide +kernel
theorem dX8_called_3 : decode cX8_called 3 = .ok (.istore_n 3, 1) := by decide +kernel
theorem dX8_called_4 : decode cX8_called 4 = .ok (.iload_n 3, 1) := by decide +kernel
theorem dX8_called_5 : decode cX8_called 5 = .ok (.aload_n 0, 1) := by decide +kernel
theorem dX8_called_6 : decode cX8_called 6 = .ok (.getfield 7, 3) := by decide +kernel
theorem dX8_called_9 : decode cX8_called 9 = .ok (.iload_n 1, 1) := by decide +kernel
theorem dX8_called_10 : decode cX8_called 10 = .ok (.iaload, 1) := by decide +kernel
theorem dX8_called_11 : decode cX8_called 11 = .ok (.if_icmp .ge 39, 3) := by decide +kernel
theorem dX8_called_14 : decode cX8_called 14 = .ok (.aload_n 0, 1) := by decide +kernel
theorem dX8_called_15 : decode cX8_called 15 = .ok (.iload_n 1, 1) := by decide +kernel
theorem dX8_called_16 : decode cX8_called 16 = .ok (.iload_n 3, 1) := by decide +kernel
theorem dX8_called_17 : decode cX8_called 17 = .ok (.invokevirtual 135, 3) := by decide +kernel
theorem dX8_called_20 : decode cX8_called 20 = .ok (.istore 4, 2) := by decide +kernel
theorem dX8_called_22 : decode cX8_called 22 = .ok (.iload_n 2, 1) := by decide +kernel
theorem dX8_called_23 : decode cX8_called 23 = .ok (.iload 4, 2) := by decide +kernel
theorem dX8_called_25 : decode cX8_called 25 = .ok (.invokestatic 125, 3) := by decide +kernel
theorem dX8_called_28 : decode cX8_called 28 = .ok (.ifCond .eq 13, 3) := by decide +kernel
theorem dX8_called_31 : decode cX8_called 31 = .ok (.iconst 1, 1) := by decide +kernel
theorem dX8_called_32 : decode cX8_called 32 = .ok (.iload 4, 2) := by decide +kernel
theorem dX8_called_34 : decode cX8_called 34 = .ok (.bipush 65, 2) := by decide +kernel
theorem dX8_called_36 : decode cX8_called 36 = .ok (.isub, 1) := by decide +kernel
theorem dX8_called_37 : decode cX8_called 37 = .ok (.ishl, 1) := by decide +kernel
theorem dX8_called_38 : decode cX8_called 38 = .ok (.goto 4, 3) := by decide +kernel
theorem dX8_called_41 : decode cX8_called 41 = .ok (.iconst 0, 1) := by decide +kernel
theorem dX8_called_42 : decode cX8_called 42 = .ok (.ior, 1) := by decide +kernel
theorem dX8_called_43 : decode cX8_called 43 = .ok (.istore_n 2, 1) := by decide +kernel
theorem dX8_called_44 : decode cX8_called 44 = .ok (.iinc 3 1, 3) := by decide +kernel
theorem dX8_called_47 : decode cX8_called 47 = .ok (.goto (-43), 3) := by decide +kernel
theorem dX8_called_50 : decode cX8_called 50 = .ok (.iload_n 2, 1) := by decide +kernel
theorem dX8_called_51 : decode cX8_called 51 = .ok (.ireturn, 1) := by decide +kernel
theorem dX8_laysSets_0 : decode cX8_laysSets 0 = .ok (.iconst 0, 1) := by decide +kernel
theorem dX8_laysSets_1 : decode cX8_laysSets 1 = .ok (.istore_n 1, 1) := by decide +kernel
theorem dX8_laysSets_2 : decode cX8_laysSets 2 = .ok (.iload_n 1, 1) := by decide +kernel
theorem dX8_laysSets_3 : decode cX8_laysSets 3 = .ok (.bipush 26, 2) := by decide +kernel
theorem dX8_laysSets_5 : decode cX8_laysSets 5 = .ok (.if_icmp .ge 20, 3) := by decide +kernel
theorem dX8_laysSets_8 : decode cX8_laysSets 8 = .ok (.aload_n 0, 1) := by decide +kernel
theorem dX8_laysSets_9 : decode cX8_laysSets 9 = .ok (.getfield 89, 3) := by decide +kernel
theorem dX8_laysSets_12 : decode cX8_laysSets 12 = .ok (.iload_n 1, 1) := by decide +kernel
theorem dX8_laysSets_13 : decode cX8_laysSets 13 = .ok (.aload_n 0, 1) := by decide +kernel
theorem dX8_laysSets_14 : decode cX8_laysSets 14 = .ok (.iload_n 1, 1) := by decide +kernel
theorem dX8_laysSets_15 : decode cX8_laysSets 15 = .ok (.invokevirtual 248, 3) := by decide +kernel
theorem dX8_laysSets_18 : decode cX8_laysSets 18 = .ok (.iastore, 1) := by decide +kernel
theorem dX8_laysSets_19 : decode cX8_laysSets 19 = .ok (.iinc 1 1, 3) := by decide +kernel
theorem dX8_laysSets_22 : decode cX8_laysSets 22 = .ok (.goto (-20), 3) := by decide +kernel
theorem dX8_laysSets_25 : decode cX8_laysSets 25 = .ok (.return_, 1) := by decide +kernel
theorem dX8_reached_0 : decode cX8_reached 0 = .ok (.aload_n 0, 1) := by decide +kernel
theorem dX8_reached_1 : decode cX8_reached 1 = .ok (.getfield 89, 3) := by decide +kernel
theorem dX8_reached_4 : decode cX8_reached 4 = .ok (.iload_n 1, 1) := by decide +kernel
theorem dX8_reached_5 : decode cX8_reached 5 = .ok (.iaload, 1) := by decide +kernel
theorem dX8_reached_6 : decode cX8_reached 6 = .ok (.istore_n 2, 1) := by decide +kernel
theorem dX8_reached_7 : decode cX8_reached 7 = .ok (.iconst 0, 1) := by decide +kernel
theorem dX8_reached_8 : decode cX8_reached 8 = .ok (.istore_n 3, 1) := by decide +kernel
theorem dX8_reached_9 : decode cX8_reached 9 = .ok (.iload_n 2, 1) := by decide +kernel
theorem dX8_reached_10 : decode cX8_reached 10 = .ok (.iload_n 3, 1) := by decide +kernel
theorem dX8_reached_11 : decode cX8_reached 11 = .ok (.if_icmp .eq 48, 3) := by decide +kernel
theorem dX8_reached_14 : decode cX8_reached 14 = .ok (.iload_n 2, 1) := by decide +kernel
theorem dX8_reached_15 : decode cX8_reached 15 = .ok (.istore_n 3, 1) := by decide +kernel
theorem dX8_reached_16 : decode cX8_reached 16 = .ok (.iconst 0, 1) := by decide +kernel
theorem dX8_reached_17 : decode cX8_reached 17 = .ok (.istore 4, 2) := by decide +kernel
theorem dX8_reached_19 : decode cX8_reached 19 = .ok (.iload 4, 2) := by decide +kernel
theorem dX8_reached_21 : decode cX8_reached 21 = .ok (.bipush 26, 2) := by decide +kernel
theorem dX8_reached_23 : decode cX8_reached 23 = .ok (.if_icmp .ge 33, 3) := by decide +kernel
theorem dX8_reached_26 : decode cX8_reached 26 = .ok (.iload_n 2, 1) := by decide +kernel
theorem dX8_reached_27 : decode cX8_reached 27 = .ok (.iload_n 2, 1) := by decide +kernel
theorem dX8_reached_28 : decode cX8_reached 28 = .ok (.iload 4, 2) := by decide +kernel
theorem dX8_reached_30 : decode cX8_reached 30 = .ok (.ishr, 1) := by decide +kernel
theorem dX8_reached_31 : decode cX8_reached 31 = .ok (.iconst 1, 1) := by decide +kernel
theorem dX8_reached_32 : decode cX8_reached 32 = .ok (.iand, 1) := by decide +kernel
theorem dX8_reached_33 : decode cX8_reached 33 = .ok (.iconst 1, 1) := by decide +kernel
theorem dX8_reached_34 : decode cX8_reached 34 = .ok (.if_icmp .ne 13, 3) := by decide +kernel
theorem dX8_reached_37 : decode cX8_reached 37 = .ok (.aload_n 0, 1) := by decide +kernel
theorem dX8_reached_38 : decode cX8_reached 38 = .ok (.getfield 89, 3) := by decide +kernel
theorem dX8_reached_41 : decode cX8_reached 41 = .ok (.iload 4, 2) := by decide +kernel
theorem dX8_reached_43 : decode cX8_reached 43 = .ok (.iaload, 1) := by decide +kernel
theorem dX8_reached_44 : decode cX8_reached 44 = .ok (.goto 4, 3) := by decide +kernel
theorem dX8_reached_47 : decode cX8_reached 47 = .ok (.iconst 0, 1) := by decide +kernel
theorem dX8_reached_48 : decode cX8_reached 48 = .ok (.ior, 1) := by decide +kernel
theorem dX8_reached_49 : decode cX8_reached 49 = .ok (.istore_n 2, 1) := by decide +kernel
theorem dX8_reached_50 : decode cX8_reached 50 = .ok (.iinc 4 1, 3) := by decide +kernel
theorem dX8_reached_53 : decode cX8_reached 53 = .ok (.goto (-34), 3) := by decide +kernel
theorem dX8_reached_56 : decode cX8_reached 56 = .ok (.goto (-47), 3) := by decide +kernel
theorem dX8_reached_59 : decode cX8_reached 59 = .ok (.iload_n 2, 1) := by decide +kernel
theorem dX8_reached_60 : decode cX8_reached 60 = .ok (.ireturn, 1) := by decide +kernel
theorem dX8_callers_0 : decode cX8_callers 0 = .ok (.iconst 0, 1) := by decide +kernel
theorem dX8_callers_1 : decode cX8_callers 1 = .ok (.istore_n 3, 1) := by decide +kernel
theorem dX8_callers_2 : decode cX8_callers 2 = .ok (.iconst 0, 1) := by decide +kernel
theorem dX8_callers_3 : decode cX8_callers 3 = .ok (.istore 4, 2) := by decide +kernel
theorem dX8_callers_5 : decode cX8_callers 5 = .ok (.iload 4, 2) := by decide +kernel
theorem dX8_callers_7 : decode cX8_callers 7 = .ok (.bipush 26, 2) := by decide +kernel
theorem dX8_callers_9 : decode cX8_callers 9 = .ok (.if_icmp .ge 48, 3) := by decide +kernel
theorem dX8_callers_12 : decode cX8_callers 12 = .ok (.iload_n 3, 1) := by decide +kernel
theorem dX8_callers_13 : decode cX8_callers 13 = .ok (.iload_n 2, 1) := by decide +kernel
theorem dX8_callers_14 : decode cX8_callers 14 = .ok (.ifCond .eq 12, 3) := by decide +kernel
theorem dX8_callers_17 : decode cX8_callers 17 = .ok (.aload_n 0, 1) := by decide +kernel
theorem dX8_callers_18 : decode cX8_callers 18 = .ok (.iload 4, 2) := by decide +kernel
theorem dX8_callers_20 : decode cX8_callers 20 = .ok (.invokevirtual 251, 3) := by decide +kernel
theorem dX8_callers_23 : decode cX8_callers 23 = .ok (.goto 10, 3) := by decide +kernel
theorem dX8_callers_26 : decode cX8_callers 26 = .ok (.aload_n 0, 1) := by decide +kernel
theorem dX8_callers_27 : decode cX8_callers 27 = .ok (.getfield 89, 3) := by decide +kernel
theorem dX8_callers_30 : decode cX8_callers 30 = .ok (.iload 4, 2) := by decide +kernel
theorem dX8_callers_32 : decode cX8_callers 32 = .ok (.iaload, 1) := by decide +kernel
theorem dX8_callers_33 : decode cX8_callers 33 = .ok (.iload_n 1, 1) := by decide +kernel
theorem dX8_callers_34 : decode cX8_callers 34 = .ok (.ishr, 1) := by decide +kernel
theorem dX8_callers_35 : decode cX8_callers 35 = .ok (.iconst 1, 1) := by decide +kernel
theorem dX8_callers_36 : decode cX8_callers 36 = .ok (.iand, 1) := by decide +kernel
theorem dX8_callers_37 : decode cX8_callers 37 = .ok (.iconst 1, 1) := by decide +kernel
theorem dX8_callers_38 : decode cX8_callers 38 = .ok (.if_icmp .ne 10, 3) := by decide +kernel
theorem dX8_callers_41 : decode cX8_callers 41 = .ok (.iconst 1, 1) := by decide +kernel
theorem dX8_callers_42 : decode cX8_callers 42 = .ok (.iload 4, 2) := by decide +kernel
theorem dX8_callers_44 : decode cX8_callers 44 = .ok (.ishl, 1) := by decide +kernel
theorem dX8_callers_45 : decode cX8_callers 45 = .ok (.goto 4, 3) := by decide +kernel
theorem dX8_callers_48 : decode cX8_callers 48 = .ok (.iconst 0, 1) := by decide +kernel
theorem dX8_callers_49 : decode cX8_callers 49 = .ok (.ior, 1) := by decide +kernel
theorem dX8_callers_50 : decode cX8_callers 50 = .ok (.istore_n 3, 1) := by decide +kernel
theorem dX8_callers_51 : decode cX8_callers 51 = .ok (.iinc 4 1, 3) := by decide +kernel
theorem dX8_callers_54 : decode cX8_callers 54 = .ok (.goto (-49), 3) := by decide +kernel
theorem dX8_callers_57 : decode cX8_callers 57 = .ok (.iload_n 3, 1) := by decide +kernel
theorem dX8_callers_58 : decode cX8_callers 58 = .ok (.ireturn, 1) := by decide +kernel
theorem dX8_uses_0 : decode cX8_uses 0 = .ok (.aload_n 0, 1) := by decide +kernel
theorem dX8_uses_1 : decode cX8_uses 1 = .ok (.iload_n 1, 1) := by decide +kernel
theorem dX8_uses_2 : decode cX8_uses 2 = .ok (.invokestatic 132, 3) := by decide +kernel
theorem dX8_uses_5 : decode cX8_uses 5 = .ok (.ifCond .ne 7, 3) := by decide +kernel
theorem dX8_uses_8 : decode cX8_uses 8 = .ok (.iconst 1, 1) := by decide +kernel
theorem dX8_uses_9 : decode cX8_uses 9 = .ok (.goto 17, 3) := by decide +kernel
theorem dX8_uses_12 : decode cX8_uses 12 = .ok (.iload_n 2, 1) := by decide +kernel
theorem dX8_uses_13 : decode cX8_uses 13 = .ok (.iconst 0, 1) := by decide +kernel
theorem dX8_uses_14 : decode cX8_uses 14 = .ok (.iconst 3, 1) := by decide +kernel
theorem dX8_uses_15 : decode cX8_uses 15 = .ok (.invokestatic 102, 3) := by decide +kernel
theorem dX8_uses_18 : decode cX8_uses 18 = .ok (.ifCond .eq 7, 3) := by decide +kernel
theorem dX8_uses_21 : decode cX8_uses 21 = .ok (.iconst 0, 1) := by decide +kernel
theorem dX8_uses_22 : decode cX8_uses 22 = .ok (.goto 4, 3) := by decide +kernel
theorem dX8_uses_25 : decode cX8_uses 25 = .ok (.iconst 2, 1) := by decide +kernel
theorem dX8_uses_26 : decode cX8_uses 26 = .ok (.invokevirtual 116, 3) := by decide +kernel
theorem dX8_uses_29 : decode cX8_uses 29 = .ok (.ifCond .eq 5, 3) := by decide +kernel
theorem dX8_uses_32 : decode cX8_uses 32 = .ok (.iconst 0, 1) := by decide +kernel
theorem dX8_uses_33 : decode cX8_uses 33 = .ok (.ireturn, 1) := by decide +kernel
theorem dX8_uses_34 : decode cX8_uses 34 = .ok (.aload_n 0, 1) := by decide +kernel
theorem dX8_uses_35 : decode cX8_uses 35 = .ok (.invokevirtual 254, 3) := by decide +kernel
theorem dX8_uses_38 : decode cX8_uses 38 = .ok (.iload_n 2, 1) := by decide +kernel
theorem dX8_uses_39 : decode cX8_uses 39 = .ok (.ifCond .ne 12, 3) := by decide +kernel
theorem dX8_uses_42 : decode cX8_uses 42 = .ok (.aload_n 0, 1) := by decide +kernel
theorem dX8_uses_43 : decode cX8_uses 43 = .ok (.getfield 89, 3) := by decide +kernel
theorem dX8_uses_46 : decode cX8_uses 46 = .ok (.iload_n 1, 1) := by decide +kernel
theorem dX8_uses_47 : decode cX8_uses 47 = .ok (.iaload, 1) := by decide +kernel
theorem dX8_uses_48 : decode cX8_uses 48 = .ok (.goto 31, 3) := by decide +kernel
theorem dX8_uses_51 : decode cX8_uses 51 = .ok (.iload_n 2, 1) := by decide +kernel
theorem dX8_uses_52 : decode cX8_uses 52 = .ok (.iconst 1, 1) := by decide +kernel
theorem dX8_uses_53 : decode cX8_uses 53 = .ok (.if_icmp .ne 11, 3) := by decide +kernel
theorem dX8_uses_56 : decode cX8_uses 56 = .ok (.aload_n 0, 1) := by decide +kernel
theorem dX8_uses_57 : decode cX8_uses 57 = .ok (.iload_n 1, 1) := by decide +kernel
theorem dX8_uses_58 : decode cX8_uses 58 = .ok (.invokevirtual 251, 3) := by decide +kernel
theorem dX8_uses_61 : decode cX8_uses 61 = .ok (.goto 18, 3) := by decide +kernel
theorem dX8_uses_64 : decode cX8_uses 64 = .ok (.aload_n 0, 1) := by decide +kernel
theorem dX8_uses_65 : decode cX8_uses 65 = .ok (.iload_n 1, 1) := by decide +kernel
theorem dX8_uses_66 : decode cX8_uses 66 = .ok (.iload_n 2, 1) := by decide +kernel
theorem dX8_uses_67 : decode cX8_uses 67 = .ok (.iconst 3, 1) := by decide +kernel
theorem dX8_uses_68 : decode cX8_uses 68 = .ok (.if_icmp .ne 7, 3) := by decide +kernel
theorem dX8_uses_71 : decode cX8_uses 71 = .ok (.iconst 1, 1) := by decide +kernel
theorem dX8_uses_72 : decode cX8_uses 72 = .ok (.goto 4, 3) := by decide +kernel
theorem dX8_uses_75 : decode cX8_uses 75 = .ok (.iconst 0, 1) := by decide +kernel
theorem dX8_uses_76 : decode cX8_uses 76 = .ok (.invokevirtual 257, 3) := by decide +kernel
theorem dX8_uses_79 : decode cX8_uses 79 = .ok (.ireturn, 1) := by decide +kernel
theorem dX8_inRings_0 : decode cX8_inRings 0 = .ok (.aload_n 0, 1) := by decide +kernel
theorem dX8_inRings_1 : decode cX8_inRings 1 = .ok (.invokevirtual 254, 3) := by decide +kernel
theorem dX8_inRings_4 : decode cX8_inRings 4 = .ok (.iconst 0, 1) := by decide +kernel
theorem dX8_inRings_5 : decode cX8_inRings 5 = .ok (.istore_n 1, 1) := by decide +kernel
theorem dX8_inRings_6 : decode cX8_inRings 6 = .ok (.iconst 0, 1) := by decide +kernel
theorem dX8_inRings_7 : decode cX8_inRings 7 = .ok (.istore_n 2, 1) := by decide +kernel
theorem dX8_inRings_8 : decode cX8_inRings 8 = .ok (.iload_n 2, 1) := by decide +kernel
theorem dX8_inRings_9 : decode cX8_inRings 9 = .ok (.bipush 26, 2) := by decide +kernel
theorem dX8_inRings_11 : decode cX8_inRings 11 = .ok (.if_icmp .ge 32, 3) := by decide +kernel
theorem dX8_inRings_14 : decode cX8_inRings 14 = .ok (.iload_n 1, 1) := by decide +kernel
theorem dX8_inRings_15 : decode cX8_inRings 15 = .ok (.aload_n 0, 1) := by decide +kernel
theorem dX8_inRings_16 : decode cX8_inRings 16 = .ok (.iload_n 2, 1) := by decide +kernel
theorem dX8_inRings_17 : decode cX8_inRings 17 = .ok (.invokevirtual 251, 3) := by decide +kernel
theorem dX8_inRings_20 : decode cX8_inRings 20 = .ok (.iload_n 2, 1) := by decide +kernel
theorem dX8_inRings_21 : decode cX8_inRings 21 = .ok (.ishr, 1) := by decide +kernel
theorem dX8_inRings_22 : decode cX8_inRings 22 = .ok (.iconst 1, 1) := by decide +kernel
theorem dX8_inRings_23 : decode cX8_inRings 23 = .ok (.iand, 1) := by decide +kernel
theorem dX8_inRings_24 : decode cX8_inRings 24 = .ok (.iconst 1, 1) := by decide +kernel
theorem dX8_inRings_25 : decode cX8_inRings 25 = .ok (.if_icmp .ne 9, 3) := by decide +kernel
theorem dX8_inRings_28 : decode cX8_inRings 28 = .ok (.iconst 1, 1) := by decide +kernel
theorem dX8_inRings_29 : decode cX8_inRings 29 = .ok (.iload_n 2, 1) := by decide +kernel
theorem dX8_inRings_30 : decode cX8_inRings 30 = .ok (.ishl, 1) := by decide +kernel
theorem dX8_inRings_31 : decode cX8_inRings 31 = .ok (.goto 4, 3) := by decide +kernel
theorem dX8_inRings_34 : decode cX8_inRings 34 = .ok (.iconst 0, 1) := by decide +kernel
theorem dX8_inRings_35 : decode cX8_inRings 35 = .ok (.ior, 1) := by decide +kernel
theorem dX8_inRings_36 : decode cX8_inRings 36 = .ok (.istore_n 1, 1) := by decide +kernel
theorem dX8_inRings_37 : decode cX8_inRings 37 = .ok (.iinc 2 1, 3) := by decide +kernel
theorem dX8_inRings_40 : decode cX8_inRings 40 = .ok (.goto (-32), 3) := by decide +kernel
theorem dX8_inRings_43 : decode cX8_inRings 43 = .ok (.iload_n 1, 1) := by decide +kernel
theorem dX8_inRings_44 : decode cX8_inRings 44 = .ok (.ireturn, 1) := by decide +kernel
theorem dX8_rings_0 : decode cX8_rings 0 = .ok (.aload_n 0, 1) := by decide +kernel
theorem dX8_rings_1 : decode cX8_rings 1 = .ok (.iconst 0, 1) := by decide +kernel
theorem dX8_rings_2 : decode cX8_rings 2 = .ok (.putfield 98, 3) := by decide +kernel
theorem dX8_rings_5 : decode cX8_rings 5 = .ok (.aload_n 0, 1) := by decide +kernel
theorem dX8_rings_6 : decode cX8_rings 6 = .ok (.invokevirtual 260, 3) := by decide +kernel
theorem dX8_rings_9 : decode cX8_rings 9 = .ok (.ireturn, 1) := by decide +kernel
theorem dX8_all_0 : decode cX8_all 0 = .ok (.iconst 0, 1) := by decide +kernel
theorem dX8_all_1 : decode cX8_all 1 = .ok (.istore_n 1, 1) := by decide +kernel
theorem dX8_all_2 : decode cX8_all 2 = .ok (.iconst 0, 1) := by decide +kernel
theorem dX8_all_3 : decode cX8_all 3 = .ok (.istore_n 2, 1) := by decide +kernel
theorem dX8_all_4 : decode cX8_all 4 = .ok (.iload_n 2, 1) := by decide +kernel
theorem dX8_all_5 : decode cX8_all 5 = .ok (.bipush 26, 2) := by decide +kernel
theorem dX8_all_7 : decode cX8_all 7 = .ok (.if_icmp .ge 27, 3) := by decide +kernel
theorem dX8_all_10 : decode cX8_all 10 = .ok (.iload_n 1, 1) := by decide +kernel
theorem dX8_all_11 : decode cX8_all 11 = .ok (.aload_n 0, 1) := by decide +kernel
theorem dX8_all_12 : decode cX8_all 12 = .ok (.iload_n 2, 1) := by decide +kernel
theorem dX8_all_13 : decode cX8_all 13 = .ok (.invokevirtual 112, 3) := by decide +kernel
theorem dX8_all_16 : decode cX8_all 16 = .ok (.ifCond .eq 9, 3) := by decide +kernel
theorem dX8_all_19 : decode cX8_all 19 = .ok (.iconst 1, 1) := by decide +kernel
theorem dX8_all_20 : decode cX8_all 20 = .ok (.iload_n 2, 1) := by decide +kernel
theorem dX8_all_21 : decode cX8_all 21 = .ok (.ishl, 1) := by decide +kernel
theorem dX8_all_22 : decode cX8_all 22 = .ok (.goto 4, 3) := by decide +kernel
theorem dX8_all_25 : decode cX8_all 25 = .ok (.iconst 0, 1) := by decide +kernel
theorem dX8_all_26 : decode cX8_all 26 = .ok (.ior, 1) := by decide +kernel
theorem dX8_all_27 : decode cX8_all 27 = .ok (.istore_n 1, 1) := by decide +kernel
theorem dX8_all_28 : decode cX8_all 28 = .ok (.iinc 2 1, 3) := by decide +kernel
theorem dX8_all_31 : decode cX8_all 31 = .ok (.goto (-27), 3) := by decide +kernel
theorem dX8_all_34 : decode cX8_all 34 = .ok (.iload_n 1, 1) := by decide +kernel
theorem dX8_all_35 : decode cX8_all 35 = .ok (.ireturn, 1) := by decide +kernel
theorem dX8_missing_0 : decode cX8_missing 0 = .ok (.aload_n 0, 1) := by decide +kernel
theorem dX8_missing_1 : decode cX8_missing 1 = .ok (.iconst 0, 1) := by decide +kernel
theorem dX8_missing_2 : decode cX8_missing 2 = .ok (.putfield 98, 3) := by decide +kernel
theorem dX8_missing_5 : decode cX8_missing 5 = .ok (.iconst 0, 1) := by decide +kernel
theorem dX8_missing_6 : decode cX8_missing 6 = .ok (.istore_n 1, 1) := by decide +kernel
theorem dX8_missing_7 : decode cX8_missing 7 = .ok (.iconst 0, 1) := by decide +kernel
theorem dX8_missing_8 : decode cX8_missing 8 = .ok (.istore_n 2, 1) := by decide +kernel
theorem dX8_missing_9 : decode cX8_missing 9 = .ok (.iload_n 2, 1) := by decide +kernel
theorem dX8_missing_10 : decode cX8_missing 10 = .ok (.bipush 26, 2) := by decide +kernel
theorem dX8_missing_12 : decode cX8_missing 12 = .ok (.if_icmp .ge 17, 3) := by decide +kernel
theorem dX8_missing_15 : decode cX8_missing 15 = .ok (.iload_n 1, 1) := by decide +kernel
theorem dX8_missing_16 : decode cX8_missing 16 = .ok (.aload_n 0, 1) := by decide +kernel
theorem dX8_missing_17 : decode cX8_missing 17 = .ok (.iload_n 2, 1) := by decide +kernel
theorem dX8_missing_18 : decode cX8_missing 18 = .ok (.invokevirtual 248, 3) := by decide +kernel
theorem dX8_missing_21 : decode cX8_missing 21 = .ok (.ior, 1) := by decide +kernel
theorem dX8_missing_22 : decode cX8_missing 22 = .ok (.istore_n 1, 1) := by decide +kernel
theorem dX8_missing_23 : decode cX8_missing 23 = .ok (.iinc 2 1, 3) := by decide +kernel
theorem dX8_missing_26 : decode cX8_missing 26 = .ok (.goto (-17), 3) := by decide +kernel
theorem dX8_missing_29 : decode cX8_missing 29 = .ok (.iload_n 1, 1) := by decide +kernel
theorem dX8_missing_30 : decode cX8_missing 30 = .ok (.aload_n 0, 1) := by decide +kernel
theorem dX8_missing_31 : decode cX8_missing 31 = .ok (.invokevirtual 263, 3) := by decide +kernel
theorem dX8_missing_34 : decode cX8_missing 34 = .ok (.iconst (-1), 1) := by decide +kernel
theorem dX8_missing_35 : decode cX8_missing 35 = .ok (.ixor, 1) := by decide +kernel
theorem dX8_missing_36 : decode cX8_missing 36 = .ok (.iand, 1) := by decide +kernel
theorem dX8_missing_37 : decode cX8_missing 37 = .ok (.ireturn, 1) := by decide +kernel
theorem dX8_chain_0 : decode cX8_chain 0 = .ok (.aload_n 0, 1) := by decide +kernel
theorem dX8_chain_1 : decode cX8_chain 1 = .ok (.iload_n 1, 1) := by decide +kernel
theorem dX8_chain_2 : decode cX8_chain 2 = .ok (.invokestatic 132, 3) := by decide +kernel
theorem dX8_chain_5 : decode cX8_chain 5 = .ok (.ifCond .eq 7, 3) := by decide +kernel
theorem dX8_chain_8 : decode cX8_chain 8 = .ok (.iconst 0, 1) := by decide +kernel
theorem dX8_chain_9 : decode cX8_chain 9 = .ok (.goto 4, 3) := by decide +kernel
theorem dX8_chain_12 : decode cX8_chain 12 = .ok (.iconst 1, 1) := by decide +kernel
theorem dX8_chain_13 : decode cX8_chain 13 = .ok (.invokevirtual 116, 3) := by decide +kernel
theorem dX8_chain_16 : decode cX8_chain 16 = .ok (.ifCond .eq 5, 3) := by decide +kernel
theorem dX8_chain_19 : decode cX8_chain 19 = .ok (.iconst 0, 1) := by decide +kernel
theorem dX8_chain_20 : decode cX8_chain 20 = .ok (.ireturn, 1) := by decide +kernel
theorem dX8_chain_21 : decode cX8_chain 21 = .ok (.aload_n 0, 1) := by decide +kernel
theorem dX8_chain_22 : decode cX8_chain 22 = .ok (.iload_n 1, 1) := by decide +kernel
theorem dX8_chain_23 : decode cX8_chain 23 = .ok (.invokevirtual 112, 3) := by decide +kernel
theorem dX8_chain_26 : decode cX8_chain 26 = .ok (.ifCond .ne 5, 3) := by decide +kernel
theorem dX8_chain_29 : decode cX8_chain 29 = .ok (.iconst 0, 1) := by decide +kernel
theorem dX8_chain_30 : decode cX8_chain 30 = .ok (.ireturn, 1) := by decide +kernel
theorem dX8_chain_31 : decode cX8_chain 31 = .ok (.aload_n 0, 1) := by decide +kernel
theorem dX8_chain_32 : decode cX8_chain 32 = .ok (.invokevirtual 260, 3) := by decide +kernel
theorem dX8_chain_35 : decode cX8_chain 35 = .ok (.istore_n 2, 1) := by decide +kernel
theorem dX8_chain_36 : decode cX8_chain 36 = .ok (.aload_n 0, 1) := by decide +kernel
theorem dX8_chain_37 : decode cX8_chain 37 = .ok (.iload_n 1, 1) := by decide +kernel
theorem dX8_chain_38 : decode cX8_chain 38 = .ok (.invokevirtual 251, 3) := by decide +kernel
theorem dX8_chain_41 : decode cX8_chain 41 = .ok (.iconst 1, 1) := by decide +kernel
theorem dX8_chain_42 : decode cX8_chain 42 = .ok (.iload_n 1, 1) := by decide +kernel
theorem dX8_chain_43 : decode cX8_chain 43 = .ok (.ishl, 1) := by decide +kernel
theorem dX8_chain_44 : decode cX8_chain 44 = .ok (.ior, 1) := by decide +kernel
theorem dX8_chain_45 : decode cX8_chain 45 = .ok (.iload_n 2, 1) := by decide +kernel
theorem dX8_chain_46 : decode cX8_chain 46 = .ok (.iand, 1) := by decide +kernel
theorem dX8_chain_47 : decode cX8_chain 47 = .ok (.ifCond .eq 5, 3) := by decide +kernel
theorem dX8_chain_50 : decode cX8_chain 50 = .ok (.iconst (-1), 1) := by decide +kernel
theorem dX8_chain_51 : decode cX8_chain 51 = .ok (.ireturn, 1) := by decide +kernel
theorem dX8_chain_52 : decode cX8_chain 52 = .ok (.iconst 0, 1) := by decide +kernel
theorem dX8_chain_53 : decode cX8_chain 53 = .ok (.istore_n 3, 1) := by decide +kernel
theorem dX8_chain_54 : decode cX8_chain 54 = .ok (.iload_n 3, 1) := by decide +kernel
theorem dX8_chain_55 : decode cX8_chain 55 = .ok (.bipush 26, 2) := by decide +kernel
theorem dX8_chain_57 : decode cX8_chain 57 = .ok (.if_icmp .ge 28, 3) := by decide +kernel
theorem dX8_chain_60 : decode cX8_chain 60 = .ok (.aload_n 0, 1) := by decide +kernel
theorem dX8_chain_61 : decode cX8_chain 61 = .ok (.getfield 92, 3) := by decide +kernel
theorem dX8_chain_64 : decode cX8_chain 64 = .ok (.iload_n 3, 1) := by decide +kernel
theorem dX8_chain_65 : decode cX8_chain 65 = .ok (.aload_n 0, 1) := by decide +kernel
theorem dX8_chain_66 : decode cX8_chain 66 = .ok (.iload_n 3, 1) := by decide +kernel
theorem dX8_chain_67 : decode cX8_chain 67 = .ok (.invokevirtual 112, 3) := by decide +kernel
theorem dX8_chain_70 : decode cX8_chain 70 = .ok (.ifCond .eq 7, 3) := by decide +kernel
theorem dX8_chain_73 : decode cX8_chain 73 = .ok (.iconst 1, 1) := by decide +kernel
theorem dX8_chain_74 : decode cX8_chain 74 = .ok (.goto 4, 3) := by decide +kernel
theorem dX8_chain_77 : decode cX8_chain 77 = .ok (.iconst 0, 1) := by decide +kernel
theorem dX8_chain_78 : decode cX8_chain 78 = .ok (.iastore, 1) := by decide +kernel
theorem dX8_chain_79 : decode cX8_chain 79 = .ok (.iinc 3 1, 3) := by decide +kernel
theorem dX8_chain_82 : decode cX8_chain 82 = .ok (.goto (-28), 3) := by decide +kernel
theorem dX8_chain_85 : decode cX8_chain 85 = .ok (.iconst 0, 1) := by decide +kernel
theorem dX8_chain_86 : decode cX8_chain 86 = .ok (.istore_n 3, 1) := by decide +kernel
theorem dX8_chain_87 : decode cX8_chain 87 = .ok (.iload_n 3, 1) := by decide +kernel
theorem dX8_chain_88 : decode cX8_chain 88 = .ok (.bipush 26, 2) := by decide +kernel
theorem dX8_chain_90 : decode cX8_chain 90 = .ok (.if_icmp .ge 133, 3) := by decide +kernel
theorem dX8_chain_93 : decode cX8_chain 93 = .ok (.iconst 0, 1) := by decide +kernel
theorem dX8_chain_94 : decode cX8_chain 94 = .ok (.istore 4, 2) := by decide +kernel
theorem dX8_chain_96 : decode cX8_chain 96 = .ok (.iload 4, 2) := by decide +kernel
theorem dX8_chain_98 : decode cX8_chain 98 = .ok (.bipush 26, 2) := by decide +kernel
theorem dX8_chain_100 : decode cX8_chain 100 = .ok (.if_icmp .ge 117, 3) := by decide +kernel
theorem dX8_chain_103 : decode cX8_chain 103 = .ok (.iconst 0, 1) := by decide +kernel
theorem dX8_chain_104 : decode cX8_chain 104 = .ok (.istore 5, 2) := by decide +kernel
theorem dX8_chain_106 : decode cX8_chain 106 = .ok (.iload 5, 2) := by decide +kernel
theorem dX8_chain_108 : decode cX8_chain 108 = .ok (.bipush 26, 2) := by decide +kernel
theorem dX8_chain_110 : decode cX8_chain 110 = .ok (.if_icmp .ge 101, 3) := by decide +kernel
theorem dX8_chain_113 : decode cX8_chain 113 = .ok (.aload_n 0, 1) := by decide +kernel
theorem dX8_chain_114 : decode cX8_chain 114 = .ok (.getfield 89, 3) := by decide +kernel
theorem dX8_chain_117 : decode cX8_chain 117 = .ok (.iload 4, 2) := by decide +kernel
theorem dX8_chain_119 : decode cX8_chain 119 = .ok (.iaload, 1) := by decide +kernel
theorem dX8_chain_120 : decode cX8_chain 120 = .ok (.iload 5, 2) := by decide +kernel
theorem dX8_chain_122 : decode cX8_chain 122 = .ok (.ishr, 1) := by decide +kernel
theorem dX8_chain_123 : decode cX8_chain 123 = .ok (.iconst 1, 1) := by decide +kernel
theorem dX8_chain_124 : decode cX8_chain 124 = .ok (.iand, 1) := by decide +kernel
theorem dX8_chain_125 : decode cX8_chain 125 = .ok (.iconst 1, 1) := by decide +kernel
theorem dX8_chain_126 : decode cX8_chain 126 = .ok (.if_icmp .ne 45, 3) := by decide +kernel
theorem dX8_chain_129 : decode cX8_chain 129 = .ok (.aload_n 0, 1) := by decide +kernel
theorem dX8_chain_130 : decode cX8_chain 130 = .ok (.iload 5, 2) := by decide +kernel
theorem dX8_chain_132 : decode cX8_chain 132 = .ok (.invokevirtual 112, 3) := by decide +kernel
theorem dX8_chain_135 : decode cX8_chain 135 = .ok (.ifCond .eq 36, 3) := by decide +kernel
theorem dX8_chain_138 : decode cX8_chain 138 = .ok (.aload_n 0, 1) := by decide +kernel
theorem dX8_chain_139 : decode cX8_chain 139 = .ok (.getfield 92, 3) := by decide +kernel
theorem dX8_chain_142 : decode cX8_chain 142 = .ok (.iload 5, 2) := by decide +kernel
theorem dX8_chain_144 : decode cX8_chain 144 = .ok (.iaload, 1) := by decide +kernel
theorem dX8_chain_145 : decode cX8_chain 145 = .ok (.aload_n 0, 1) := by decide +kernel
theorem dX8_chain_146 : decode cX8_chain 146 = .ok (.getfield 92, 3) := by decide +kernel
theorem dX8_chain_149 : decode cX8_chain 149 = .ok (.iload 4, 2) := by decide +kernel
theorem dX8_chain_151 : decode cX8_chain 151 = .ok (.iaload, 1) := by decide +kernel
theorem dX8_chain_152 : decode cX8_chain 152 = .ok (.if_icmp .lt 19, 3) := by decide +kernel
theorem dX8_chain_155 : decode cX8_chain 155 = .ok (.aload_n 0, 1) := by decide +kernel
theorem dX8_chain_156 : decode cX8_chain 156 = .ok (.getfield 92, 3) := by decide +kernel
theorem dX8_chain_159 : decode cX8_chain 159 = .ok (.iload 5, 2) := by decide +kernel
theorem dX8_chain_161 : decode cX8_chain 161 = .ok (.iaload, 1) := by decide +kernel
theorem dX8_chain_162 : decode cX8_chain 162 = .ok (.bipush 26, 2) := by decide +kernel
theorem dX8_chain_164 : decode cX8_chain 164 = .ok (.if_icmp .ge 7, 3) := by decide +kernel
theorem dX8_chain_167 : decode cX8_chain 167 = .ok (.iconst 1, 1) := by decide +kernel
theorem dX8_chain_168 : decode cX8_chain 168 = .ok (.goto 4, 3) := by decide +kernel
theorem dX8_chain_171 : decode cX8_chain 171 = .ok (.iconst 0, 1) := by decide +kernel
theorem dX8_chain_172 : decode cX8_chain 172 = .ok (.istore 6, 2) := by decide +kernel
theorem dX8_chain_174 : decode cX8_chain 174 = .ok (.aload_n 0, 1) := by decide +kernel
theorem dX8_chain_175 : decode cX8_chain 175 = .ok (.getfield 92, 3) := by decide +kernel
theorem dX8_chain_178 : decode cX8_chain 178 = .ok (.iload 4, 2) := by decide +kernel
theorem dX8_chain_180 : decode cX8_chain 180 = .ok (.iload 6, 2) := by decide +kernel
theorem dX8_chain_182 : decode cX8_chain 182 = .ok (.ifCond .eq 15, 3) := by decide +kernel
theorem dX8_chain_185 : decode cX8_chain 185 = .ok (.aload_n 0, 1) := by decide +kernel
theorem dX8_chain_186 : decode cX8_chain 186 = .ok (.getfield 92, 3) := by decide +kernel
theorem dX8_chain_189 : decode cX8_chain 189 = .ok (.iload 5, 2) := by decide +kernel
theorem dX8_chain_191 : decode cX8_chain 191 = .ok (.iaload, 1) := by decide +kernel
theorem dX8_chain_192 : decode cX8_chain 192 = .ok (.iconst 1, 1) := by decide +kernel
theorem dX8_chain_193 : decode cX8_chain 193 = .ok (.iadd, 1) := by decide +kernel
theorem dX8_chain_194 : decode cX8_chain 194 = .ok (.goto 10, 3) := by decide +kernel
theorem dX8_chain_197 : decode cX8_chain 197 = .ok (.aload_n 0, 1) := by decide +kernel
theorem dX8_chain_198 : decode cX8_chain 198 = .ok (.getfield 92, 3) := by decide +kernel
theorem dX8_chain_201 : decode cX8_chain 201 = .ok (.iload 4, 2) := by decide +kernel
theorem dX8_chain_203 : decode cX8_chain 203 = .ok (.iaload, 1) := by decide +kernel
theorem dX8_chain_204 : decode cX8_chain 204 = .ok (.iastore, 1) := by decide +kernel
theorem dX8_chain_205 : decode cX8_chain 205 = .ok (.iinc 5 1, 3) := by decide +kernel
theorem dX8_chain_208 : decode cX8_chain 208 = .ok (.goto (-102), 3) := by decide +kernel
theorem dX8_chain_211 : decode cX8_chain 211 = .ok (.iinc 4 1, 3) := by decide +kernel
theorem dX8_chain_214 : decode cX8_chain 214 = .ok (.goto (-118), 3) := by decide +kernel
theorem dX8_chain_217 : decode cX8_chain 217 = .ok (.iinc 3 1, 3) := by decide +kernel
theorem dX8_chain_220 : decode cX8_chain 220 = .ok (.goto (-133), 3) := by decide +kernel
theorem dX8_chain_223 : decode cX8_chain 223 = .ok (.aload_n 0, 1) := by decide +kernel
theorem dX8_chain_224 : decode cX8_chain 224 = .ok (.getfield 92, 3) := by decide +kernel
theorem dX8_chain_227 : decode cX8_chain 227 = .ok (.iload_n 1, 1) := by decide +kernel
theorem dX8_chain_228 : decode cX8_chain 228 = .ok (.iaload, 1) := by decide +kernel
theorem dX8_chain_229 : decode cX8_chain 229 = .ok (.ireturn, 1) := by decide +kernel
theorem dX8_ifDefined_0 : decode cX8_ifDefined 0 = .ok (.aload_n 0, 1) := by decide +kernel
theorem dX8_ifDefined_1 : decode cX8_ifDefined 1 = .ok (.iload_n 1, 1) := by decide +kernel
theorem dX8_ifDefined_2 : decode cX8_ifDefined 2 = .ok (.invokestatic 132, 3) := by decide +kernel
theorem dX8_ifDefined_5 : decode cX8_ifDefined 5 = .ok (.ifCond .ne 7, 3) := by decide +kernel
theorem dX8_ifDefined_8 : decode cX8_ifDefined 8 = .ok (.iconst 1, 1) := by decide +kernel
theorem dX8_ifDefined_9 : decode cX8_ifDefined 9 = .ok (.goto 15, 3) := by decide +kernel
theorem dX8_ifDefined_12 : decode cX8_ifDefined 12 = .ok (.aload_n 0, 1) := by decide +kernel
theorem dX8_ifDefined_13 : decode cX8_ifDefined 13 = .ok (.invokevirtual 139, 3) := by decide +kernel
theorem dX8_ifDefined_16 : decode cX8_ifDefined 16 = .ok (.ifCond .eq 7, 3) := by decide +kernel
theorem dX8_ifDefined_19 : decode cX8_ifDefined 19 = .ok (.iconst 0, 1) := by decide +kernel
theorem dX8_ifDefined_20 : decode cX8_ifDefined 20 = .ok (.goto 4, 3) := by decide +kernel
theorem dX8_ifDefined_23 : decode cX8_ifDefined 23 = .ok (.iconst 2, 1) := by decide +kernel
theorem dX8_ifDefined_24 : decode cX8_ifDefined 24 = .ok (.invokevirtual 116, 3) := by decide +kernel
theorem dX8_ifDefined_27 : decode cX8_ifDefined 27 = .ok (.ifCond .eq 5, 3) := by decide +kernel
theorem dX8_ifDefined_30 : decode cX8_ifDefined 30 = .ok (.iconst 0, 1) := by decide +kernel
theorem dX8_ifDefined_31 : decode cX8_ifDefined 31 = .ok (.ireturn, 1) := by decide +kernel
theorem dX8_ifDefined_32 : decode cX8_ifDefined 32 = .ok (.aload_n 0, 1) := by decide +kernel
theorem dX8_ifDefined_33 : decode cX8_ifDefined 33 = .ok (.getfield 7, 3) := by decide +kernel
theorem dX8_ifDefined_36 : decode cX8_ifDefined 36 = .ok (.iload_n 1, 1) := by decide +kernel
theorem dX8_ifDefined_37 : decode cX8_ifDefined 37 = .ok (.iaload, 1) := by decide +kernel
theorem dX8_ifDefined_38 : decode cX8_ifDefined 38 = .ok (.istore_n 2, 1) := by decide +kernel
theorem dX8_ifDefined_39 : decode cX8_ifDefined 39 = .ok (.iconst 0, 1) := by decide +kernel
theorem dX8_ifDefined_40 : decode cX8_ifDefined 40 = .ok (.istore_n 3, 1) := by decide +kernel
theorem dX8_ifDefined_41 : decode cX8_ifDefined 41 = .ok (.iload_n 3, 1) := by decide +kernel
theorem dX8_ifDefined_42 : decode cX8_ifDefined 42 = .ok (.bipush 60, 2) := by decide +kernel
theorem dX8_ifDefined_44 : decode cX8_ifDefined 44 = .ok (.if_icmp .ge 29, 3) := by decide +kernel
theorem dX8_ifDefined_47 : decode cX8_ifDefined 47 = .ok (.aload_n 0, 1) := by decide +kernel
theorem dX8_ifDefined_48 : decode cX8_ifDefined 48 = .ok (.getfield 95, 3) := by decide +kernel
theorem dX8_ifDefined_51 : decode cX8_ifDefined 51 = .ok (.iload_n 3, 1) := by decide +kernel
theorem dX8_ifDefined_52 : decode cX8_ifDefined 52 = .ok (.aload_n 0, 1) := by decide +kernel
theorem dX8_ifDefined_53 : decode cX8_ifDefined 53 = .ok (.getfield 7, 3) := by decide +kernel
theorem dX8_ifDefined_56 : decode cX8_ifDefined 56 = .ok (.bipush 26, 2) := by decide +kernel
theorem dX8_ifDefined_58 : decode cX8_ifDefined 58 = .ok (.bipush 60, 2) := by decide +kernel
theorem dX8_ifDefined_60 : decode cX8_ifDefined 60 = .ok (.iload_n 1, 1) := by decide +kernel
theorem dX8_ifDefined_61 : decode cX8_ifDefined 61 = .ok (.imul, 1) := by decide +kernel
theorem dX8_ifDefined_62 : decode cX8_ifDefined 62 = .ok (.iadd, 1) := by decide +kernel
theorem dX8_ifDefined_63 : decode cX8_ifDefined 63 = .ok (.iload_n 3, 1) := by decide +kernel
theorem dX8_ifDefined_64 : decode cX8_ifDefined 64 = .ok (.iadd, 1) := by decide +kernel
theorem dX8_ifDefined_65 : decode cX8_ifDefined 65 = .ok (.iaload, 1) := by decide +kernel
theorem dX8_ifDefined_66 : decode cX8_ifDefined 66 = .ok (.iastore, 1) := by decide +kernel
theorem dX8_ifDefined_67 : decode cX8_ifDefined 67 = .ok (.iinc 3 1, 3) := by decide +kernel
theorem dX8_ifDefined_70 : decode cX8_ifDefined 70 = .ok (.goto (-29), 3) := by decide +kernel
theorem dX8_ifDefined_73 : decode cX8_ifDefined 73 = .ok (.aload_n 0, 1) := by decide +kernel
theorem dX8_ifDefined_74 : decode cX8_ifDefined 74 = .ok (.iload_n 1, 1) := by decide +kernel
theorem dX8_ifDefined_75 : decode cX8_ifDefined 75 = .ok (.invokevirtual 146, 3) := by decide +kernel
theorem dX8_ifDefined_78 : decode cX8_ifDefined 78 = .ok (.aload_n 0, 1) := by decide +kernel
theorem dX8_ifDefined_79 : decode cX8_ifDefined 79 = .ok (.invokevirtual 260, 3) := by decide +kernel
theorem dX8_ifDefined_82 : decode cX8_ifDefined 82 = .ok (.istore_n 3, 1) := by decide +kernel
theorem dX8_ifDefined_83 : decode cX8_ifDefined 83 = .ok (.aload_n 0, 1) := by decide +kernel
theorem dX8_ifDefined_84 : decode cX8_ifDefined 84 = .ok (.getfield 7, 3) := by decide +kernel
theorem dX8_ifDefined_87 : decode cX8_ifDefined 87 = .ok (.iload_n 1, 1) := by decide +kernel
theorem dX8_ifDefined_88 : decode cX8_ifDefined 88 = .ok (.iload_n 2, 1) := by decide +kernel
theorem dX8_ifDefined_89 : decode cX8_ifDefined 89 = .ok (.iastore, 1) := by decide +kernel
theorem dX8_ifDefined_90 : decode cX8_ifDefined 90 = .ok (.iconst 0, 1) := by decide +kernel
theorem dX8_ifDefined_91 : decode cX8_ifDefined 91 = .ok (.istore 4, 2) := by decide +kernel
theorem dX8_ifDefined_93 : decode cX8_ifDefined 93 = .ok (.iload 4, 2) := by decide +kernel
theorem dX8_ifDefined_95 : decode cX8_ifDefined 95 = .ok (.bipush 60, 2) := by decide +kernel
theorem dX8_ifDefined_97 : decode cX8_ifDefined 97 = .ok (.if_icmp .ge 31, 3) := by decide +kernel
theorem dX8_ifDefined_100 : decode cX8_ifDefined 100 = .ok (.aload_n 0, 1) := by decide +kernel
theorem dX8_ifDefined_101 : decode cX8_ifDefined 101 = .ok (.getfield 7, 3) := by decide +kernel
theorem dX8_ifDefined_104 : decode cX8_ifDefined 104 = .ok (.bipush 26, 2) := by decide +kernel
theorem dX8_ifDefined_106 : decode cX8_ifDefined 106 = .ok (.bipush 60, 2) := by decide +kernel
theorem dX8_ifDefined_108 : decode cX8_ifDefined 108 = .ok (.iload_n 1, 1) := by decide +kernel
theorem dX8_ifDefined_109 : decode cX8_ifDefined 109 = .ok (.imul, 1) := by decide +kernel
theorem dX8_ifDefined_110 : decode cX8_ifDefined 110 = .ok (.iadd, 1) := by decide +kernel
theorem dX8_ifDefined_111 : decode cX8_ifDefined 111 = .ok (.iload 4, 2) := by decide +kernel
theorem dX8_ifDefined_113 : decode cX8_ifDefined 113 = .ok (.iadd, 1) := by decide +kernel
theorem dX8_ifDefined_114 : decode cX8_ifDefined 114 = .ok (.aload_n 0, 1) := by decide +kernel
theorem dX8_ifDefined_115 : decode cX8_ifDefined 115 = .ok (.getfield 95, 3) := by decide +kernel
theorem dX8_ifDefined_118 : decode cX8_ifDefined 118 = .ok (.iload 4, 2) := by decide +kernel
theorem dX8_ifDefined_120 : decode cX8_ifDefined 120 = .ok (.iaload, 1) := by decide +kernel
theorem dX8_ifDefined_121 : decode cX8_ifDefined 121 = .ok (.iastore, 1) := by decide +kernel
theorem dX8_ifDefined_122 : decode cX8_ifDefined 122 = .ok (.iinc 4 1, 3) := by decide +kernel
theorem dX8_ifDefined_125 : decode cX8_ifDefined 125 = .ok (.goto (-32), 3) := by decide +kernel
theorem dX8_ifDefined_128 : decode cX8_ifDefined 128 = .ok (.iload_n 3, 1) := by decide +kernel
theorem dX8_ifDefined_129 : decode cX8_ifDefined 129 = .ok (.ireturn, 1) := by decide +kernel
theorem dX8_sign_0 : decode cX8_sign 0 = .ok (.aload_n 0, 1) := by decide +kernel
theorem dX8_sign_1 : decode cX8_sign 1 = .ok (.iload_n 1, 1) := by decide +kernel
theorem dX8_sign_2 : decode cX8_sign 2 = .ok (.ifCond .ge 7, 3) := by decide +kernel
theorem dX8_sign_5 : decode cX8_sign 5 = .ok (.iconst 1, 1) := by decide +kernel
theorem dX8_sign_6 : decode cX8_sign 6 = .ok (.goto 4, 3) := by decide +kernel
theorem dX8_sign_9 : decode cX8_sign 9 = .ok (.iconst 0, 1) := by decide +kernel
theorem dX8_sign_10 : decode cX8_sign 10 = .ok (.invokevirtual 116, 3) := by decide +kernel
theorem dX8_sign_13 : decode cX8_sign 13 = .ok (.ifCond .eq 5, 3) := by decide +kernel
theorem dX8_sign_16 : decode cX8_sign 16 = .ok (.iconst 0, 1) := by decide +kernel
theorem dX8_sign_17 : decode cX8_sign 17 = .ok (.ireturn, 1) := by decide +kernel
theorem dX8_sign_18 : decode cX8_sign 18 = .ok (.iload_n 1, 1) := by decide +kernel
theorem dX8_sign_19 : decode cX8_sign 19 = .ok (.aload_n 0, 1) := by decide +kernel
theorem dX8_sign_20 : decode cX8_sign 20 = .ok (.getfield 7, 3) := by decide +kernel
theorem dX8_sign_23 : decode cX8_sign 23 = .ok (.sipush 1587, 3) := by decide +kernel
theorem dX8_sign_26 : decode cX8_sign 26 = .ok (.iaload, 1) := by decide +kernel
theorem dX8_sign_27 : decode cX8_sign 27 = .ok (.if_icmp .ge 16, 3) := by decide +kernel
theorem dX8_sign_30 : decode cX8_sign 30 = .ok (.aload_n 0, 1) := by decide +kernel
theorem dX8_sign_31 : decode cX8_sign 31 = .ok (.getfield 7, 3) := by decide +kernel
theorem dX8_sign_34 : decode cX8_sign 34 = .ok (.sipush 1588, 3) := by decide +kernel
theorem dX8_sign_37 : decode cX8_sign 37 = .ok (.iload_n 1, 1) := by decide +kernel
theorem dX8_sign_38 : decode cX8_sign 38 = .ok (.iadd, 1) := by decide +kernel
theorem dX8_sign_39 : decode cX8_sign 39 = .ok (.iaload, 1) := by decide +kernel
theorem dX8_sign_40 : decode cX8_sign 40 = .ok (.goto 4, 3) := by decide +kernel
theorem dX8_sign_43 : decode cX8_sign 43 = .ok (.iconst (-1), 1) := by decide +kernel
theorem dX8_sign_44 : decode cX8_sign 44 = .ok (.ireturn, 1) := by decide +kernel
theorem dX8_signsAs_0 : decode cX8_signsAs 0 = .ok (.iconst 0, 1) := by decide +kernel
theorem dX8_signsAs_1 : decode cX8_signsAs 1 = .ok (.istore_n 2, 1) := by decide +kernel
theorem dX8_signsAs_2 : decode cX8_signsAs 2 = .ok (.iconst 0, 1) := by decide +kernel
theorem dX8_signsAs_3 : decode cX8_signsAs 3 = .ok (.istore_n 3, 1) := by decide +kernel
theorem dX8_signsAs_4 : decode cX8_signsAs 4 = .ok (.iload_n 3, 1) := by decide +kernel
theorem dX8_signsAs_5 : decode cX8_signsAs 5 = .ok (.aload_n 0, 1) := by decide +kernel
theorem dX8_signsAs_6 : decode cX8_signsAs 6 = .ok (.getfield 7, 3) := by decide +kernel
theorem dX8_signsAs_9 : decode cX8_signsAs 9 = .ok (.sipush 1587, 3) := by decide +kernel
theorem dX8_signsAs_12 : decode cX8_signsAs 12 = .ok (.iaload, 1) := by decide +kernel
theorem dX8_signsAs_13 : decode cX8_signsAs 13 = .ok (.if_icmp .ge 31, 3) := by decide +kernel
theorem dX8_signsAs_16 : decode cX8_signsAs 16 = .ok (.iload_n 2, 1) := by decide +kernel
theorem dX8_signsAs_17 : decode cX8_signsAs 17 = .ok (.aload_n 0, 1) := by decide +kernel
theorem dX8_signsAs_18 : decode cX8_signsAs 18 = .ok (.getfield 7, 3) := by decide +kernel
theorem dX8_signsAs_21 : decode cX8_signsAs 21 = .ok (.sipush 1588, 3) := by decide +kernel
theorem dX8_signsAs_24 : decode cX8_signsAs 24 = .ok (.iload_n 3, 1) := by decide +kernel
theorem dX8_signsAs_25 : decode cX8_signsAs 25 = .ok (.iadd, 1) := by decide +kernel
theorem dX8_signsAs_26 : decode cX8_signsAs 26 = .ok (.iaload, 1) := by decide +kernel
theorem dX8_signsAs_27 : decode cX8_signsAs 27 = .ok (.iload_n 1, 1) := by decide +kernel
theorem dX8_signsAs_28 : decode cX8_signsAs 28 = .ok (.if_icmp .ne 7, 3) := by decide +kernel
theorem dX8_signsAs_31 : decode cX8_signsAs 31 = .ok (.iconst 1, 1) := by decide +kernel
theorem dX8_signsAs_32 : decode cX8_signsAs 32 = .ok (.goto 4, 3) := by decide +kernel
theorem dX8_signsAs_35 : decode cX8_signsAs 35 = .ok (.iconst 0, 1) := by decide +kernel
theorem dX8_signsAs_36 : decode cX8_signsAs 36 = .ok (.iadd, 1) := by decide +kernel
theorem dX8_signsAs_37 : decode cX8_signsAs 37 = .ok (.istore_n 2, 1) := by decide +kernel
theorem dX8_signsAs_38 : decode cX8_signsAs 38 = .ok (.iinc 3 1, 3) := by decide +kernel
theorem dX8_signsAs_41 : decode cX8_signsAs 41 = .ok (.goto (-37), 3) := by decide +kernel
theorem dX8_signsAs_44 : decode cX8_signsAs 44 = .ok (.iload_n 2, 1) := by decide +kernel
theorem dX8_signsAs_45 : decode cX8_signsAs 45 = .ok (.ireturn, 1) := by decide +kernel
theorem dX8_result_0 : decode cX8_result 0 = .ok (.aload_n 0, 1) := by decide +kernel
theorem dX8_result_1 : decode cX8_result 1 = .ok (.iload_n 1, 1) := by decide +kernel
theorem dX8_result_2 : decode cX8_result 2 = .ok (.iconst 0, 1) := by decide +kernel
theorem dX8_result_3 : decode cX8_result 3 = .ok (.bipush 7, 2) := by decide +kernel
theorem dX8_result_5 : decode cX8_result 5 = .ok (.invokestatic 102, 3) := by decide +kernel
theorem dX8_result_8 : decode cX8_result 8 = .ok (.ifCond .eq 7, 3) := by decide +kernel
theorem dX8_result_11 : decode cX8_result 11 = .ok (.iconst 0, 1) := by decide +kernel
theorem dX8_result_12 : decode cX8_result 12 = .ok (.goto 4, 3) := by decide +kernel
theorem dX8_result_15 : decode cX8_result 15 = .ok (.iconst 1, 1) := by decide +kernel
theorem dX8_result_16 : decode cX8_result 16 = .ok (.invokevirtual 116, 3) := by decide +kernel
theorem dX8_result_19 : decode cX8_result 19 = .ok (.ifCond .eq 5, 3) := by decide +kernel
theorem dX8_result_22 : decode cX8_result 22 = .ok (.iconst 0, 1) := by decide +kernel
theorem dX8_result_23 : decode cX8_result 23 = .ok (.ireturn, 1) := by decide +kernel
theorem dX8_result_24 : decode cX8_result 24 = .ok (.iload_n 1, 1) := by decide +kernel
theorem dX8_result_25 : decode cX8_result 25 = .ok (.tableswitch 98 0 6 #[43, 52, 59, 66, 73, 80, 89], 43) := by decide +kernel
theorem dX8_result_68 : decode cX8_result 68 = .ok (.aload_n 0, 1) := by decide +kernel
theorem dX8_result_69 : decode cX8_result 69 = .ok (.getfield 7, 3) := by decide +kernel
theorem dX8_result_72 : decode cX8_result 72 = .ok (.sipush 1587, 3) := by decide +kernel
theorem dX8_result_75 : decode cX8_result 75 = .ok (.iaload, 1) := by decide +kernel
theorem dX8_result_76 : decode cX8_result 76 = .ok (.ireturn, 1) := by decide +kernel
theorem dX8_result_77 : decode cX8_result 77 = .ok (.aload_n 0, 1) := by decide +kernel
theorem dX8_result_78 : decode cX8_result 78 = .ok (.bipush 35, 2) := by decide +kernel
theorem dX8_result_80 : decode cX8_result 80 = .ok (.invokevirtual 266, 3) := by decide +kernel
theorem dX8_result_83 : decode cX8_result 83 = .ok (.ireturn, 1) := by decide +kernel
theorem dX8_result_84 : decode cX8_result 84 = .ok (.aload_n 0, 1) := by decide +kernel
theorem dX8_result_85 : decode cX8_result 85 = .ok (.bipush 37, 2) := by decide +kernel
theorem dX8_result_87 : decode cX8_result 87 = .ok (.invokevirtual 266, 3) := by decide +kernel
theorem dX8_result_90 : decode cX8_result 90 = .ok (.ireturn, 1) := by decide +kernel
theorem dX8_result_91 : decode cX8_result 91 = .ok (.aload_n 0, 1) := by decide +kernel
theorem dX8_result_92 : decode cX8_result 92 = .ok (.bipush 36, 2) := by decide +kernel
theorem dX8_result_94 : decode cX8_result 94 = .ok (.invokevirtual 266, 3) := by decide +kernel
theorem dX8_result_97 : decode cX8_result 97 = .ok (.ireturn, 1) := by decide +kernel
theorem dX8_result_98 : decode cX8_result 98 = .ok (.aload_n 0, 1) := by decide +kernel
theorem dX8_result_99 : decode cX8_result 99 = .ok (.bipush 63, 2) := by decide +kernel
theorem dX8_result_101 : decode cX8_result 101 = .ok (.invokevirtual 266, 3) := by decide +kernel
theorem dX8_result_104 : decode cX8_result 104 = .ok (.ireturn, 1) := by decide +kernel
theorem dX8_result_105 : decode cX8_result 105 = .ok (.aload_n 0, 1) := by decide +kernel
theorem dX8_result_106 : decode cX8_result 106 = .ok (.getfield 7, 3) := by decide +kernel
theorem dX8_result_109 : decode cX8_result 109 = .ok (.sipush 1788, 3) := by decide +kernel
theorem dX8_result_112 : decode cX8_result 112 = .ok (.iaload, 1) := by decide +kernel
theorem dX8_result_113 : decode cX8_result 113 = .ok (.ireturn, 1) := by decide +kernel
theorem dX8_result_114 : decode cX8_result 114 = .ok (.aload_n 0, 1) := by decide +kernel
theorem dX8_result_115 : decode cX8_result 115 = .ok (.getfield 7, 3) := by decide +kernel
theorem dX8_result_118 : decode cX8_result 118 = .ok (.sipush 1789, 3) := by decide +kernel
theorem dX8_result_121 : decode cX8_result 121 = .ok (.iaload, 1) := by decide +kernel
theorem dX8_result_122 : decode cX8_result 122 = .ok (.ireturn, 1) := by decide +kernel
theorem dX8_result_123 : decode cX8_result 123 = .ok (.aload_n 0, 1) := by decide +kernel
theorem dX8_result_124 : decode cX8_result 124 = .ok (.getfield 7, 3) := by decide +kernel
theorem dX8_result_127 : decode cX8_result 127 = .ok (.sipush 1792, 3) := by decide +kernel
theorem dX8_result_130 : decode cX8_result 130 = .ok (.iaload, 1) := by decide +kernel
theorem dX8_result_131 : decode cX8_result 131 = .ok (.ireturn, 1) := by decide +kernel
theorem dX8_trace_0 : decode cX8_trace 0 = .ok (.aload_n 0, 1) := by decide +kernel
theorem dX8_trace_1 : decode cX8_trace 1 = .ok (.iload_n 1, 1) := by decide +kernel
theorem dX8_trace_2 : decode cX8_trace 2 = .ok (.ifCond .lt 12, 3) := by decide +kernel
theorem dX8_trace_5 : decode cX8_trace 5 = .ok (.iload_n 2, 1) := by decide +kernel
theorem dX8_trace_6 : decode cX8_trace 6 = .ok (.iconst 0, 1) := by decide +kernel
theorem dX8_trace_7 : decode cX8_trace 7 = .ok (.iconst 5, 1) := by decide +kernel
theorem dX8_trace_8 : decode cX8_trace 8 = .ok (.invokestatic 102, 3) := by decide +kernel
theorem dX8_trace_11 : decode cX8_trace 11 = .ok (.ifCond .ne 7, 3) := by decide +kernel
theorem dX8_trace_14 : decode cX8_trace 14 = .ok (.iconst 1, 1) := by decide +kernel
theorem dX8_trace_15 : decode cX8_trace 15 = .ok (.goto 4, 3) := by decide +kernel
theorem dX8_trace_18 : decode cX8_trace 18 = .ok (.iconst 0, 1) := by decide +kernel
theorem dX8_trace_19 : decode cX8_trace 19 = .ok (.invokevirtual 116, 3) := by decide +kernel
theorem dX8_trace_22 : decode cX8_trace 22 = .ok (.ifCond .eq 5, 3) := by decide +kernel
theorem dX8_trace_25 : decode cX8_trace 25 = .ok (.iconst 0, 1) := by decide +kernel
theorem dX8_trace_26 : decode cX8_trace 26 = .ok (.ireturn, 1) := by decide +kernel
theorem dX8_trace_27 : decode cX8_trace 27 = .ok (.iload_n 1, 1) := by decide +kernel
theorem dX8_trace_28 : decode cX8_trace 28 = .ok (.aload_n 0, 1) := by decide +kernel
theorem dX8_trace_29 : decode cX8_trace 29 = .ok (.getfield 7, 3) := by decide +kernel
theorem dX8_trace_32 : decode cX8_trace 32 = .ok (.sipush 1792, 3) := by decide +kernel
theorem dX8_trace_35 : decode cX8_trace 35 = .ok (.iaload, 1) := by decide +kernel
theorem dX8_trace_36 : decode cX8_trace 36 = .ok (.if_icmp .ge 21, 3) := by decide +kernel
theorem dX8_trace_39 : decode cX8_trace 39 = .ok (.aload_n 0, 1) := by decide +kernel
theorem dX8_trace_40 : decode cX8_trace 40 = .ok (.getfield 7, 3) := by decide +kernel
theorem dX8_trace_43 : decode cX8_trace 43 = .ok (.sipush 1793, 3) := by decide +kernel
theorem dX8_trace_46 : decode cX8_trace 46 = .ok (.bipush 6, 2) := by decide +kernel
theorem dX8_trace_48 : decode cX8_trace 48 = .ok (.iload_n 1, 1) := by decide +kernel
theorem dX8_trace_49 : decode cX8_trace 49 = .ok (.imul, 1) := by decide +kernel
theorem dX8_trace_50 : decode cX8_trace 50 = .ok (.iadd, 1) := by decide +kernel
theorem dX8_trace_51 : decode cX8_trace 51 = .ok (.iload_n 2, 1) := by decide +kernel
theorem dX8_trace_52 : decode cX8_trace 52 = .ok (.iadd, 1) := by decide +kernel
theorem dX8_trace_53 : decode cX8_trace 53 = .ok (.iaload, 1) := by decide +kernel
theorem dX8_trace_54 : decode cX8_trace 54 = .ok (.goto 4, 3) := by decide +kernel
theorem dX8_trace_57 : decode cX8_trace 57 = .ok (.iconst (-1), 1) := by decide +kernel
theorem dX8_trace_58 : decode cX8_trace 58 = .ok (.ireturn, 1) := by decide +kernel
theorem dX8_lengthOf_0 : decode cX8_lengthOf 0 = .ok (.aload_n 0, 1) := by decide +kernel
theorem dX8_lengthOf_1 : decode cX8_lengthOf 1 = .ok (.iload_n 1, 1) := by decide +kernel
theorem dX8_lengthOf_2 : decode cX8_lengthOf 2 = .ok (.invokestatic 132, 3) := by decide +kernel
theorem dX8_lengthOf_5 : decode cX8_lengthOf 5 = .ok (.ifCond .ne 7, 3) := by decide +kernel
theorem dX8_lengthOf_8 : decode cX8_lengthOf 8 = .ok (.iconst 1, 1) := by decide +kernel
theorem dX8_lengthOf_9 : decode cX8_lengthOf 9 = .ok (.goto 18, 3) := by decide +kernel
theorem dX8_lengthOf_12 : decode cX8_lengthOf 12 = .ok (.iload_n 2, 1) := by decide +kernel
theorem dX8_lengthOf_13 : decode cX8_lengthOf 13 = .ok (.iconst 0, 1) := by decide +kernel
theorem dX8_lengthOf_14 : decode cX8_lengthOf 14 = .ok (.bipush 20, 2) := by decide +kernel
theorem dX8_lengthOf_16 : decode cX8_lengthOf 16 = .ok (.invokestatic 102, 3) := by decide +kernel
theorem dX8_lengthOf_19 : decode cX8_lengthOf 19 = .ok (.ifCond .eq 7, 3) := by decide +kernel
theorem dX8_lengthOf_22 : decode cX8_lengthOf 22 = .ok (.iconst 0, 1) := by decide +kernel
theorem dX8_lengthOf_23 : decode cX8_lengthOf 23 = .ok (.goto 4, 3) := by decide +kernel
theorem dX8_lengthOf_26 : decode cX8_lengthOf 26 = .ok (.iconst 2, 1) := by decide +kernel
theorem dX8_lengthOf_27 : decode cX8_lengthOf 27 = .ok (.invokevirtual 116, 3) := by decide +kernel
theorem dX8_lengthOf_30 : decode cX8_lengthOf 30 = .ok (.ifCond .eq 5, 3) := by decide +kernel
theorem dX8_lengthOf_33 : decode cX8_lengthOf 33 = .ok (.iconst 0, 1) := by decide +kernel
theorem dX8_lengthOf_34 : decode cX8_lengthOf 34 = .ok (.ireturn, 1) := by decide +kernel
theorem dX8_lengthOf_35 : decode cX8_lengthOf 35 = .ok (.aload_n 0, 1) := by decide +kernel
theorem dX8_lengthOf_36 : decode cX8_lengthOf 36 = .ok (.iload_n 1, 1) := by decide +kernel
theorem dX8_lengthOf_37 : decode cX8_lengthOf 37 = .ok (.invokevirtual 112, 3) := by decide +kernel
theorem dX8_lengthOf_40 : decode cX8_lengthOf 40 = .ok (.ifCond .ne 5, 3) := by decide +kernel
theorem dX8_lengthOf_43 : decode cX8_lengthOf 43 = .ok (.iconst (-1), 1) := by decide +kernel
theorem dX8_lengthOf_44 : decode cX8_lengthOf 44 = .ok (.ireturn, 1) := by decide +kernel
theorem dX8_lengthOf_45 : decode cX8_lengthOf 45 = .ok (.aload_n 0, 1) := by decide +kernel
theorem dX8_lengthOf_46 : decode cX8_lengthOf 46 = .ok (.bipush 27, 2) := by decide +kernel
theorem dX8_lengthOf_48 : decode cX8_lengthOf 48 = .ok (.invokevirtual 229, 3) := by decide +kernel
theorem dX8_lengthOf_51 : decode cX8_lengthOf 51 = .ok (.aload_n 0, 1) := by decide +kernel
theorem dX8_lengthOf_52 : decode cX8_lengthOf 52 = .ok (.iload_n 2, 1) := by decide +kernel
theorem dX8_lengthOf_53 : decode cX8_lengthOf 53 = .ok (.putfield 188, 3) := by decide +kernel
theorem dX8_lengthOf_56 : decode cX8_lengthOf 56 = .ok (.aload_n 0, 1) := by decide +kernel
theorem dX8_lengthOf_57 : decode cX8_lengthOf 57 = .ok (.iload_n 1, 1) := by decide +kernel
theorem dX8_lengthOf_58 : decode cX8_lengthOf 58 = .ok (.invokevirtual 185, 3) := by decide +kernel
theorem dX8_lengthOf_61 : decode cX8_lengthOf 61 = .ok (.aload_n 0, 1) := by decide +kernel
theorem dX8_lengthOf_62 : decode cX8_lengthOf 62 = .ok (.invokevirtual 232, 3) := by decide +kernel
theorem dX8_lengthOf_65 : decode cX8_lengthOf 65 = .ok (.ifCond .eq 12, 3) := by decide +kernel
theorem dX8_lengthOf_68 : decode cX8_lengthOf 68 = .ok (.aload_n 0, 1) := by decide +kernel
theorem dX8_lengthOf_69 : decode cX8_lengthOf 69 = .ok (.getfield 59, 3) := by decide +kernel
theorem dX8_lengthOf_72 : decode cX8_lengthOf 72 = .ok (.iconst 0, 1) := by decide +kernel
theorem dX8_lengthOf_73 : decode cX8_lengthOf 73 = .ok (.iaload, 1) := by decide +kernel
theorem dX8_lengthOf_74 : decode cX8_lengthOf 74 = .ok (.goto 4, 3) := by decide +kernel
theorem dX8_lengthOf_77 : decode cX8_lengthOf 77 = .ok (.iconst (-1), 1) := by decide +kernel
theorem dX8_lengthOf_78 : decode cX8_lengthOf 78 = .ok (.ireturn, 1) := by decide +kernel
theorem dX8_callsOfAll_0 : decode cX8_callsOfAll 0 = .ok (.iconst 0, 1) := by decide +kernel
theorem dX8_callsOfAll_1 : decode cX8_callsOfAll 1 = .ok (.istore_n 1, 1) := by decide +kernel
theorem dX8_callsOfAll_2 : decode cX8_callsOfAll 2 = .ok (.iconst 0, 1) := by decide +kernel
theorem dX8_callsOfAll_3 : decode cX8_callsOfAll 3 = .ok (.istore_n 2, 1) := by decide +kernel
theorem dX8_callsOfAll_4 : decode cX8_callsOfAll 4 = .ok (.iload_n 2, 1) := by decide +kernel
theorem dX8_callsOfAll_5 : decode cX8_callsOfAll 5 = .ok (.bipush 26, 2) := by decide +kernel
theorem dX8_callsOfAll_7 : decode cX8_callsOfAll 7 = .ok (.if_icmp .ge 17, 3) := by decide +kernel
theorem dX8_callsOfAll_10 : decode cX8_callsOfAll 10 = .ok (.iload_n 1, 1) := by decide +kernel
theorem dX8_callsOfAll_11 : decode cX8_callsOfAll 11 = .ok (.aload_n 0, 1) := by decide +kernel
theorem dX8_callsOfAll_12 : decode cX8_callsOfAll 12 = .ok (.iload_n 2, 1) := by decide +kernel
theorem dX8_callsOfAll_13 : decode cX8_callsOfAll 13 = .ok (.invokevirtual 238, 3) := by decide +kernel
theorem dX8_callsOfAll_16 : decode cX8_callsOfAll 16 = .ok (.iadd, 1) := by decide +kernel
theorem dX8_callsOfAll_17 : decode cX8_callsOfAll 17 = .ok (.istore_n 1, 1) := by decide +kernel
theorem dX8_callsOfAll_18 : decode cX8_callsOfAll 18 = .ok (.iinc 2 1, 3) := by decide +kernel
theorem dX8_callsOfAll_21 : decode cX8_callsOfAll 21 = .ok (.goto (-17), 3) := by decide +kernel
theorem dX8_callsOfAll_24 : decode cX8_callsOfAll 24 = .ok (.iload_n 1, 1) := by decide +kernel
theorem dX8_callsOfAll_25 : decode cX8_callsOfAll 25 = .ok (.ireturn, 1) := by decide +kernel
theorem dX8_count_0 : decode cX8_count 0 = .ok (.aload_n 0, 1) := by decide +kernel
theorem dX8_count_1 : decode cX8_count 1 = .ok (.iload_n 1, 1) := by decide +kernel
theorem dX8_count_2 : decode cX8_count 2 = .ok (.iconst 0, 1) := by decide +kernel
theorem dX8_count_3 : decode cX8_count 3 = .ok (.bipush 7, 2) := by decide +kernel
theorem dX8_count_5 : decode cX8_count 5 = .ok (.invokestatic 102, 3) := by decide +kernel
theorem dX8_count_8 : decode cX8_count 8 = .ok (.ifCond .eq 7, 3) := by decide +kernel
theorem dX8_count_11 : decode cX8_count 11 = .ok (.iconst 0, 1) := by decide +kernel
theorem dX8_count_12 : decode cX8_count 12 = .ok (.goto 4, 3) := by decide +kernel
theorem dX8_count_15 : decode cX8_count 15 = .ok (.iconst 1, 1) := by decide +kernel
theorem dX8_count_16 : decode cX8_count 16 = .ok (.invokevirtual 116, 3) := by decide +kernel
theorem dX8_count_19 : decode cX8_count 19 = .ok (.ifCond .eq 5, 3) := by decide +kernel
theorem dX8_count_22 : decode cX8_count 22 = .ok (.iconst 0, 1) := by decide +kernel
theorem dX8_count_23 : decode cX8_count 23 = .ok (.ireturn, 1) := by decide +kernel
theorem dX8_count_24 : decode cX8_count 24 = .ok (.iload_n 1, 1) := by decide +kernel
theorem dX8_count_25 : decode cX8_count 25 = .ok (.tableswitch 90 0 6 #[43, 48, 53, 62, 71, 80, 85], 43) := by decide +kernel
theorem dX8_count_68 : decode cX8_count 68 = .ok (.aload_n 0, 1) := by decide +kernel
theorem dX8_count_69 : decode cX8_count 69 = .ok (.invokevirtual 153, 3) := by decide +kernel
theorem dX8_count_72 : decode cX8_count 72 = .ok (.ireturn, 1) := by decide +kernel
theorem dX8_count_73 : decode cX8_count 73 = .ok (.aload_n 0, 1) := by decide +kernel
theorem dX8_count_74 : decode cX8_count 74 = .ok (.invokevirtual 263, 3) := by decide +kernel
theorem dX8_count_77 : decode cX8_count 77 = .ok (.ireturn, 1) := by decide +kernel
theorem dX8_count_78 : decode cX8_count 78 = .ok (.aload_n 0, 1) := by decide +kernel
theorem dX8_count_79 : decode cX8_count 79 = .ok (.getfield 7, 3) := by decide +kernel
theorem dX8_count_82 : decode cX8_count 82 = .ok (.sipush 1586, 3) := by decide +kernel
theorem dX8_count_85 : decode cX8_count 85 = .ok (.iaload, 1) := by decide +kernel
theorem dX8_count_86 : decode cX8_count 86 = .ok (.ireturn, 1) := by decide +kernel
theorem dX8_count_87 : decode cX8_count 87 = .ok (.aload_n 0, 1) := by decide +kernel
theorem dX8_count_88 : decode cX8_count 88 = .ok (.getfield 7, 3) := by decide +kernel
theorem dX8_count_91 : decode cX8_count 91 = .ok (.sipush 1790, 3) := by decide +kernel
theorem dX8_count_94 : decode cX8_count 94 = .ok (.iaload, 1) := by decide +kernel
theorem dX8_count_95 : decode cX8_count 95 = .ok (.ireturn, 1) := by decide +kernel
theorem dX8_count_96 : decode cX8_count 96 = .ok (.aload_n 0, 1) := by decide +kernel
theorem dX8_count_97 : decode cX8_count 97 = .ok (.getfield 7, 3) := by decide +kernel
theorem dX8_count_100 : decode cX8_count 100 = .ok (.sipush 1791, 3) := by decide +kernel
theorem dX8_count_103 : decode cX8_count 103 = .ok (.iaload, 1) := by decide +kernel
theorem dX8_count_104 : decode cX8_count 104 = .ok (.ireturn, 1) := by decide +kernel
theorem dX8_count_105 : decode cX8_count 105 = .ok (.aload_n 0, 1) := by decide +kernel
theorem dX8_count_106 : decode cX8_count 106 = .ok (.invokevirtual 269, 3) := by decide +kernel
theorem dX8_count_109 : decode cX8_count 109 = .ok (.ireturn, 1) := by decide +kernel
theorem dX8_count_110 : decode cX8_count 110 = .ok (.aload_n 0, 1) := by decide +kernel
theorem dX8_count_111 : decode cX8_count 111 = .ok (.getfield 109, 3) := by decide +kernel
theorem dX8_count_114 : decode cX8_count 114 = .ok (.ireturn, 1) := by decide +kernel
theorem dX8_count_115 : decode cX8_count 115 = .ok (.aload_n 0, 1) := by decide +kernel
theorem dX8_count_116 : decode cX8_count 116 = .ok (.getfield 106, 3) := by decide +kernel
theorem dX8_count_119 : decode cX8_count 119 = .ok (.ireturn, 1) := by decide +kernel
theorem dX8_meanHoles_0 : decode cX8_meanHoles 0 = .ok (.aload_n 0, 1) := by decide +kernel
theorem dX8_meanHoles_1 : decode cX8_meanHoles 1 = .ok (.iconst 0, 1) := by decide +kernel
theorem dX8_meanHoles_2 : decode cX8_meanHoles 2 = .ok (.putfield 98, 3) := by decide +kernel
theorem dX8_meanHoles_5 : decode cX8_meanHoles 5 = .ok (.iconst 0, 1) := by decide +kernel
theorem dX8_meanHoles_6 : decode cX8_meanHoles 6 = .ok (.istore_n 1, 1) := by decide +kernel
theorem dX8_meanHoles_7 : decode cX8_meanHoles 7 = .ok (.iconst 0, 1) := by decide +kernel
theorem dX8_meanHoles_8 : decode cX8_meanHoles 8 = .ok (.istore_n 2, 1) := by decide +kernel
theorem dX8_meanHoles_9 : decode cX8_meanHoles 9 = .ok (.iload_n 2, 1) := by decide +kernel
theorem dX8_meanHoles_10 : decode cX8_meanHoles 10 = .ok (.bipush 26, 2) := by decide +kernel
theorem dX8_meanHoles_12 : decode cX8_meanHoles 12 = .ok (.if_icmp .ge 35, 3) := by decide +kernel
theorem dX8_meanHoles_15 : decode cX8_meanHoles 15 = .ok (.iload_n 1, 1) := by decide +kernel
theorem dX8_meanHoles_16 : decode cX8_meanHoles 16 = .ok (.aload_n 0, 1) := by decide +kernel
theorem dX8_meanHoles_17 : decode cX8_meanHoles 17 = .ok (.iload_n 2, 1) := by decide +kernel
theorem dX8_meanHoles_18 : decode cX8_meanHoles 18 = .ok (.invokevirtual 112, 3) := by decide +kernel
theorem dX8_meanHoles_21 : decode cX8_meanHoles 21 = .ok (.ifCond .eq 17, 3) := by decide +kernel
theorem dX8_meanHoles_24 : decode cX8_meanHoles 24 = .ok (.aload_n 0, 1) := by decide +kernel
theorem dX8_meanHoles_25 : decode cX8_meanHoles 25 = .ok (.iload_n 2, 1) := by decide +kernel
theorem dX8_meanHoles_26 : decode cX8_meanHoles 26 = .ok (.aload_n 0, 1) := by decide +kernel
theorem dX8_meanHoles_27 : decode cX8_meanHoles 27 = .ok (.getfield 7, 3) := by decide +kernel
theorem dX8_meanHoles_30 : decode cX8_meanHoles 30 = .ok (.iload_n 2, 1) := by decide +kernel
theorem dX8_meanHoles_31 : decode cX8_meanHoles 31 = .ok (.iaload, 1) := by decide +kernel
theorem dX8_meanHoles_32 : decode cX8_meanHoles 32 = .ok (.invokevirtual 150, 3) := by decide +kernel
theorem dX8_meanHoles_35 : decode cX8_meanHoles 35 = .ok (.goto 4, 3) := by decide +kernel
theorem dX8_meanHoles_38 : decode cX8_meanHoles 38 = .ok (.iconst 0, 1) := by decide +kernel
theorem dX8_meanHoles_39 : decode cX8_meanHoles 39 = .ok (.iadd, 1) := by decide +kernel
theorem dX8_meanHoles_40 : decode cX8_meanHoles 40 = .ok (.istore_n 1, 1) := by decide +kernel
theorem dX8_meanHoles_41 : decode cX8_meanHoles 41 = .ok (.iinc 2 1, 3) := by decide +kernel
theorem dX8_meanHoles_44 : decode cX8_meanHoles 44 = .ok (.goto (-35), 3) := by decide +kernel
theorem dX8_meanHoles_47 : decode cX8_meanHoles 47 = .ok (.aload_n 0, 1) := by decide +kernel
theorem dX8_meanHoles_48 : decode cX8_meanHoles 48 = .ok (.invokevirtual 153, 3) := by decide +kernel
theorem dX8_meanHoles_51 : decode cX8_meanHoles 51 = .ok (.ifCond .ne 7, 3) := by decide +kernel
theorem dX8_meanHoles_54 : decode cX8_meanHoles 54 = .ok (.dconst 0, 1) := by decide +kernel
theorem dX8_meanHoles_55 : decode cX8_meanHoles 55 = .ok (.goto 11, 3) := by decide +kernel
theorem dX8_meanHoles_58 : decode cX8_meanHoles 58 = .ok (.iload_n 1, 1) := by decide +kernel
theorem dX8_meanHoles_59 : decode cX8_meanHoles 59 = .ok (.i2d, 1) := by decide +kernel
theorem dX8_meanHoles_60 : decode cX8_meanHoles 60 = .ok (.aload_n 0, 1) := by decide +kernel
theorem dX8_meanHoles_61 : decode cX8_meanHoles 61 = .ok (.invokevirtual 153, 3) := by decide +kernel
theorem dX8_meanHoles_64 : decode cX8_meanHoles 64 = .ok (.i2d, 1) := by decide +kernel
theorem dX8_meanHoles_65 : decode cX8_meanHoles 65 = .ok (.ddiv, 1) := by decide +kernel
theorem dX8_meanHoles_66 : decode cX8_meanHoles 66 = .ok (.dreturn, 1) := by decide +kernel
theorem dJ6_bitCount_0f7a4_0 : decode cJ6_bitCount_0f7a4 0 = .ok (.iload_n 0, 1) := by decide +kernel
theorem dJ6_bitCount_0f7a4_1 : decode cJ6_bitCount_0f7a4 1 = .ok (.iload_n 0, 1) := by decide +kernel
theorem dJ6_bitCount_0f7a4_2 : decode cJ6_bitCount_0f7a4 2 = .ok (.iconst 1, 1) := by decide +kernel
theorem dJ6_bitCount_0f7a4_3 : decode cJ6_bitCount_0f7a4 3 = .ok (.iushr, 1) := by decide +kernel
theorem dJ6_bitCount_0f7a4_4 : decode cJ6_bitCount_0f7a4 4 = .ok (.ldc_w 265, 3) := by decide +kernel
theorem dJ6_bitCount_0f7a4_7 : decode cJ6_bitCount_0f7a4 7 = .ok (.iand, 1) := by decide +kernel
theorem dJ6_bitCount_0f7a4_8 : decode cJ6_bitCount_0f7a4 8 = .ok (.isub, 1) := by decide +kernel
theorem dJ6_bitCount_0f7a4_9 : decode cJ6_bitCount_0f7a4 9 = .ok (.istore_n 0, 1) := by decide +kernel
theorem dJ6_bitCount_0f7a4_10 : decode cJ6_bitCount_0f7a4 10 = .ok (.iload_n 0, 1) := by decide +kernel
theorem dJ6_bitCount_0f7a4_11 : decode cJ6_bitCount_0f7a4 11 = .ok (.ldc_w 266, 3) := by decide +kernel
theorem dJ6_bitCount_0f7a4_14 : decode cJ6_bitCount_0f7a4 14 = .ok (.iand, 1) := by decide +kernel
theorem dJ6_bitCount_0f7a4_15 : decode cJ6_bitCount_0f7a4 15 = .ok (.iload_n 0, 1) := by decide +kernel
theorem dJ6_bitCount_0f7a4_16 : decode cJ6_bitCount_0f7a4 16 = .ok (.iconst 2, 1) := by decide +kernel
theorem dJ6_bitCount_0f7a4_17 : decode cJ6_bitCount_0f7a4 17 = .ok (.iushr, 1) := by decide +kernel
theorem dJ6_bitCount_0f7a4_18 : decode cJ6_bitCount_0f7a4 18 = .ok (.ldc_w 266, 3) := by decide +kernel
theorem dJ6_bitCount_0f7a4_21 : decode cJ6_bitCount_0f7a4 21 = .ok (.iand, 1) := by decide +kernel
theorem dJ6_bitCount_0f7a4_22 : decode cJ6_bitCount_0f7a4 22 = .ok (.iadd, 1) := by decide +kernel
theorem dJ6_bitCount_0f7a4_23 : decode cJ6_bitCount_0f7a4 23 = .ok (.istore_n 0, 1) := by decide +kernel
theorem dJ6_bitCount_0f7a4_24 : decode cJ6_bitCount_0f7a4 24 = .ok (.iload_n 0, 1) := by decide +kernel
theorem dJ6_bitCount_0f7a4_25 : decode cJ6_bitCount_0f7a4 25 = .ok (.iload_n 0, 1) := by decide +kernel
theorem dJ6_bitCount_0f7a4_26 : decode cJ6_bitCount_0f7a4 26 = .ok (.iconst 4, 1) := by decide +kernel
theorem dJ6_bitCount_0f7a4_27 : decode cJ6_bitCount_0f7a4 27 = .ok (.iushr, 1) := by decide +kernel
theorem dJ6_bitCount_0f7a4_28 : decode cJ6_bitCount_0f7a4 28 = .ok (.iadd, 1) := by decide +kernel
theorem dJ6_bitCount_0f7a4_29 : decode cJ6_bitCount_0f7a4 29 = .ok (.ldc_w 267, 3) := by decide +kernel
theorem dJ6_bitCount_0f7a4_32 : decode cJ6_bitCount_0f7a4 32 = .ok (.iand, 1) := by decide +kernel
theorem dJ6_bitCount_0f7a4_33 : decode cJ6_bitCount_0f7a4 33 = .ok (.istore_n 0, 1) := by decide +kernel
theorem dJ6_bitCount_0f7a4_34 : decode cJ6_bitCount_0f7a4 34 = .ok (.iload_n 0, 1) := by decide +kernel
theorem dJ6_bitCount_0f7a4_35 : decode cJ6_bitCount_0f7a4 35 = .ok (.iload_n 0, 1) := by decide +kernel
theorem dJ6_bitCount_0f7a4_36 : decode cJ6_bitCount_0f7a4 36 = .ok (.bipush 8, 2) := by decide +kernel
theorem dJ6_bitCount_0f7a4_38 : decode cJ6_bitCount_0f7a4 38 = .ok (.iushr, 1) := by decide +kernel
theorem dJ6_bitCount_0f7a4_39 : decode cJ6_bitCount_0f7a4 39 = .ok (.iadd, 1) := by decide +kernel
theorem dJ6_bitCount_0f7a4_40 : decode cJ6_bitCount_0f7a4 40 = .ok (.istore_n 0, 1) := by decide +kernel
theorem dJ6_bitCount_0f7a4_41 : decode cJ6_bitCount_0f7a4 41 = .ok (.iload_n 0, 1) := by decide +kernel
theorem dJ6_bitCount_0f7a4_42 : decode cJ6_bitCount_0f7a4 42 = .ok (.iload_n 0, 1) := by decide +kernel
theorem dJ6_bitCount_0f7a4_43 : decode cJ6_bitCount_0f7a4 43 = .ok (.bipush 16, 2) := by decide +kernel
theorem dJ6_bitCount_0f7a4_45 : decode cJ6_bitCount_0f7a4 45 = .ok (.iushr, 1) := by decide +kernel
theorem dJ6_bitCount_0f7a4_46 : decode cJ6_bitCount_0f7a4 46 = .ok (.iadd, 1) := by decide +kernel
theorem dJ6_bitCount_0f7a4_47 : decode cJ6_bitCount_0f7a4 47 = .ok (.istore_n 0, 1) := by decide +kernel
theorem dJ6_bitCount_0f7a4_48 : decode cJ6_bitCount_0f7a4 48 = .ok (.iload_n 0, 1) := by decide +kernel
theorem dJ6_bitCount_0f7a4_49 : decode cJ6_bitCount_0f7a4 49 = .ok (.bipush 63, 2) := by decide +kernel
theorem dJ6_bitCount_0f7a4_51 : decode cJ6_bitCount_0f7a4 51 = .ok (.iand, 1) := by decide +kernel
theorem dJ6_bitCount_0f7a4_52 : decode cJ6_bitCount_0f7a4 52 = .ok (.ireturn, 1) := by decide +kernel
theorem dJ9_max_7cf53_0 : decode cJ9_max_7cf53 0 = .ok (.iload_n 0, 1) := by decide +kernel
theorem dJ9_max_7cf53_1 : decode cJ9_max_7cf53 1 = .ok (.iload_n 1, 1) := by decide +kernel
theorem dJ9_max_7cf53_2 : decode cJ9_max_7cf53 2 = .ok (.if_icmp .lt 7, 3) := by decide +kernel
theorem dJ9_max_7cf53_5 : decode cJ9_max_7cf53 5 = .ok (.iload_n 0, 1) := by decide +kernel
theorem dJ9_max_7cf53_6 : decode cJ9_max_7cf53 6 = .ok (.goto 4, 3) := by decide +kernel
theorem dJ9_max_7cf53_9 : decode cJ9_max_7cf53 9 = .ok (.iload_n 1, 1) := by decide +kernel
theorem dJ9_max_7cf53_10 : decode cJ9_max_7cf53 10 = .ok (.ireturn, 1) := by decide +kernel
theorem dJ9_min_7cf53_0 : decode cJ9_min_7cf53 0 = .ok (.iload_n 0, 1) := by decide +kernel
theorem dJ9_min_7cf53_1 : decode cJ9_min_7cf53 1 = .ok (.iload_n 1, 1) := by decide +kernel
theorem dJ9_min_7cf53_2 : decode cJ9_min_7cf53 2 = .ok (.if_icmp .gt 7, 3) := by decide +kernel
theorem dJ9_min_7cf53_5 : decode cJ9_min_7cf53 5 = .ok (.iload_n 0, 1) := by decide +kernel
theorem dJ9_min_7cf53_6 : decode cJ9_min_7cf53 6 = .ok (.goto 4, 3) := by decide +kernel
theorem dJ9_min_7cf53_9 : decode cJ9_min_7cf53 9 = .ok (.iload_n 1, 1) := by decide +kernel
theorem dJ9_min_7cf53_10 : decode cJ9_min_7cf53 10 = .ok (.ireturn, 1) := by decide +kernel
theorem dJ7_copyOf_59c91_0 : decode cJ7_copyOf_59c91 0 = .ok (.iload_n 1, 1) := by decide +kernel
theorem dJ7_copyOf_59c91_1 : decode cJ7_copyOf_59c91 1 = .ok (.aload_n 0, 1) := by decide +kernel
theorem dJ7_copyOf_59c91_2 : decode cJ7_copyOf_59c91 2 = .ok (.arraylength, 1) := by decide +kernel
theorem dJ7_copyOf_59c91_3 : decode cJ7_copyOf_59c91 3 = .ok (.if_icmp .ne 11, 3) := by decide +kernel
theorem dJ7_copyOf_59c91_6 : decode cJ7_copyOf_59c91 6 = .ok (.aload_n 0, 1) := by decide +kernel
theorem dJ7_copyOf_59c91_7 : decode cJ7_copyOf_59c91 7 = .ok (.invokevirtual 316, 3) := by decide +kernel
theorem dJ7_copyOf_59c91_10 : decode cJ7_copyOf_59c91 10 = .ok (.checkcast 317, 3) := by decide +kernel
theorem dJ7_copyOf_59c91_13 : decode cJ7_copyOf_59c91 13 = .ok (.areturn, 1) := by decide +kernel
theorem dJ7_copyOf_59c91_14 : decode cJ7_copyOf_59c91 14 = .ok (.iload_n 1, 1) := by decide +kernel
theorem dJ7_copyOf_59c91_15 : decode cJ7_copyOf_59c91 15 = .ok (.newarray .int, 2) := by decide +kernel
theorem dJ7_copyOf_59c91_17 : decode cJ7_copyOf_59c91 17 = .ok (.astore_n 2, 1) := by decide +kernel
theorem dJ7_copyOf_59c91_18 : decode cJ7_copyOf_59c91 18 = .ok (.aload_n 0, 1) := by decide +kernel
theorem dJ7_copyOf_59c91_19 : decode cJ7_copyOf_59c91 19 = .ok (.iconst 0, 1) := by decide +kernel
theorem dJ7_copyOf_59c91_20 : decode cJ7_copyOf_59c91 20 = .ok (.aload_n 2, 1) := by decide +kernel
theorem dJ7_copyOf_59c91_21 : decode cJ7_copyOf_59c91 21 = .ok (.iconst 0, 1) := by decide +kernel
theorem dJ7_copyOf_59c91_22 : decode cJ7_copyOf_59c91 22 = .ok (.aload_n 0, 1) := by decide +kernel
theorem dJ7_copyOf_59c91_23 : decode cJ7_copyOf_59c91 23 = .ok (.arraylength, 1) := by decide +kernel
theorem dJ7_copyOf_59c91_24 : decode cJ7_copyOf_59c91 24 = .ok (.iload_n 1, 1) := by decide +kernel
theorem dJ7_copyOf_59c91_25 : decode cJ7_copyOf_59c91 25 = .ok (.invokestatic 304, 3) := by decide +kernel
theorem dJ7_copyOf_59c91_28 : decode cJ7_copyOf_59c91 28 = .ok (.invokestatic 150, 3) := by decide +kernel
theorem dJ7_copyOf_59c91_31 : decode cJ7_copyOf_59c91 31 = .ok (.aload_n 2, 1) := by decide +kernel
theorem dJ7_copyOf_59c91_32 : decode cJ7_copyOf_59c91 32 = .ok (.areturn, 1) := by decide +kernel
theorem dL_define_0 : decode cL_define 0 = .ok (.aload_n 2, 1) := by decide +kernel
theorem dL_define_1 : decode cL_define 1 = .ok (.iconst 0, 1) := by decide +kernel
theorem dL_define_2 : decode cL_define 2 = .ok (.aload_n 0, 1) := by decide +kernel
theorem dL_define_3 : decode cL_define 3 = .ok (.iload_n 1, 1) := by decide +kernel
theorem dL_define_4 : decode cL_define 4 = .ok (.invokevirtual 7, 3) := by decide +kernel
theorem dL_define_7 : decode cL_define 7 = .ok (.i2l, 1) := by decide +kernel
theorem dL_define_8 : decode cL_define 8 = .ok (.lastore, 1) := by decide +kernel
theorem dL_define_9 : decode cL_define 9 = .ok (.goto 9, 3) := by decide +kernel
theorem dL_define_12 : decode cL_define 12 = .ok (.astore_n 3, 1) := by decide +kernel
theorem dL_define_13 : decode cL_define 13 = .ok (.iconst 1, 1) := by decide +kernel
theorem dL_define_14 : decode cL_define 14 = .ok (.ireturn, 1) := by decide +kernel
theorem dL_define_15 : decode cL_define 15 = .ok (.astore_n 3, 1) := by decide +kernel
theorem dL_define_16 : decode cL_define 16 = .ok (.iconst 2, 1) := by decide +kernel
theorem dL_define_17 : decode cL_define 17 = .ok (.ireturn, 1) := by decide +kernel
theorem dL_define_18 : decode cL_define 18 = .ok (.iconst 0, 1) := by decide +kernel
theorem dL_define_19 : decode cL_define 19 = .ok (.ireturn, 1) := by decide +kernel
theorem dL_remove_0 : decode cL_remove 0 = .ok (.aload_n 2, 1) := by decide +kernel
theorem dL_remove_1 : decode cL_remove 1 = .ok (.iconst 0, 1) := by decide +kernel
theorem dL_remove_2 : decode cL_remove 2 = .ok (.aload_n 0, 1) := by decide +kernel
theorem dL_remove_3 : decode cL_remove 3 = .ok (.iload_n 1, 1) := by decide +kernel
theorem dL_remove_4 : decode cL_remove 4 = .ok (.invokevirtual 17, 3) := by decide +kernel
theorem dL_remove_7 : decode cL_remove 7 = .ok (.i2l, 1) := by decide +kernel
theorem dL_remove_8 : decode cL_remove 8 = .ok (.lastore, 1) := by decide +kernel
theorem dL_remove_9 : decode cL_remove 9 = .ok (.goto 9, 3) := by decide +kernel
theorem dL_remove_12 : decode cL_remove 12 = .ok (.astore_n 3, 1) := by decide +kernel
theorem dL_remove_13 : decode cL_remove 13 = .ok (.iconst 1, 1) := by decide +kernel
theorem dL_remove_14 : decode cL_remove 14 = .ok (.ireturn, 1) := by decide +kernel
theorem dL_remove_15 : decode cL_remove 15 = .ok (.astore_n 3, 1) := by decide +kernel
theorem dL_remove_16 : decode cL_remove 16 = .ok (.iconst 2, 1) := by decide +kernel
theorem dL_remove_17 : decode cL_remove 17 = .ok (.ireturn, 1) := by decide +kernel
theorem dL_remove_18 : decode cL_remove 18 = .ok (.iconst 0, 1) := by decide +kernel
theorem dL_remove_19 : decode cL_remove 19 = .ok (.ireturn, 1) := by decide +kernel
theorem dL_exchange_0 : decode cL_exchange 0 = .ok (.aload_n 3, 1) := by decide +kernel
theorem dL_exchange_1 : decode cL_exchange 1 = .ok (.iconst 0, 1) := by decide +kernel
theorem dL_exchange_2 : decode cL_exchange 2 = .ok (.aload_n 0, 1) := by decide +kernel
theorem dL_exchange_3 : decode cL_exchange 3 = .ok (.iload_n 1, 1) := by decide +kernel
theorem dL_exchange_4 : decode cL_exchange 4 = .ok (.iload_n 2, 1) := by decide +kernel
theorem dL_exchange_5 : decode cL_exchange 5 = .ok (.invokevirtual 22, 3) := by decide +kernel
theorem dL_exchange_8 : decode cL_exchange 8 = .ok (.i2l, 1) := by decide +kernel
theorem dL_exchange_9 : decode cL_exchange 9 = .ok (.lastore, 1) := by decide +kernel
theorem dL_exchange_10 : decode cL_exchange 10 = .ok (.goto 7, 3) := by decide +kernel
theorem dL_exchange_13 : decode cL_exchange 13 = .ok (.astore 4, 2) := by decide +kernel
theorem dL_exchange_15 : decode cL_exchange 15 = .ok (.iconst 1, 1) := by decide +kernel
theorem dL_exchange_16 : decode cL_exchange 16 = .ok (.ireturn, 1) := by decide +kernel
theorem dL_exchange_17 : decode cL_exchange 17 = .ok (.iconst 0, 1) := by decide +kernel
theorem dL_exchange_18 : decode cL_exchange 18 = .ok (.ireturn, 1) := by decide +kernel
theorem dL_set_0 : decode cL_set 0 = .ok (.aload_n 2, 1) := by decide +kernel
theorem dL_set_1 : decode cL_set 1 = .ok (.iconst 0, 1) := by decide +kernel
theorem dL_set_2 : decode cL_set 2 = .ok (.aload_n 0, 1) := by decide +kernel
theorem dL_set_3 : decode cL_set 3 = .ok (.iload_n 1, 1) := by decide +kernel
theorem dL_set_4 : decode cL_set 4 = .ok (.invokevirtual 26, 3) := by decide +kernel
theorem dL_set_7 : decode cL_set 7 = .ok (.i2l, 1) := by decide +kernel
theorem dL_set_8 : decode cL_set 8 = .ok (.lastore, 1) := by decide +kernel
theorem dL_set_9 : decode cL_set 9 = .ok (.goto 6, 3) := by decide +kernel
theorem dL_set_12 : decode cL_set 12 = .ok (.astore_n 3, 1) := by decide +kernel
theorem dL_set_13 : decode cL_set 13 = .ok (.iconst 1, 1) := by decide +kernel
theorem dL_set_14 : decode cL_set 14 = .ok (.ireturn, 1) := by decide +kernel
theorem dL_set_15 : decode cL_set 15 = .ok (.iconst 0, 1) := by decide +kernel
theorem dL_set_16 : decode cL_set 16 = .ok (.ireturn, 1) := by decide +kernel
theorem dL_expand_0 : decode cL_expand 0 = .ok (.aload_n 1, 1) := by decide +kernel
theorem dL_expand_1 : decode cL_expand 1 = .ok (.iconst 0, 1) := by decide +kernel
theorem dL_expand_2 : decode cL_expand 2 = .ok (.aload_n 0, 1) := by decide +kernel
theorem dL_expand_3 : decode cL_expand 3 = .ok (.invokevirtual 29, 3) := by decide +kernel
theorem dL_expand_6 : decode cL_expand 6 = .ok (.i2l, 1) := by decide +kernel
theorem dL_expand_7 : decode cL_expand 7 = .ok (.lastore, 1) := by decide +kernel
theorem dL_expand_8 : decode cL_expand 8 = .ok (.goto 6, 3) := by decide +kernel
theorem dL_expand_11 : decode cL_expand 11 = .ok (.astore_n 2, 1) := by decide +kernel
theorem dL_expand_12 : decode cL_expand 12 = .ok (.iconst 1, 1) := by decide +kernel
theorem dL_expand_13 : decode cL_expand 13 = .ok (.ireturn, 1) := by decide +kernel
theorem dL_expand_14 : decode cL_expand 14 = .ok (.iconst 0, 1) := by decide +kernel
theorem dL_expand_15 : decode cL_expand 15 = .ok (.ireturn, 1) := by decide +kernel
theorem dL_append_0 : decode cL_append 0 = .ok (.aload_n 2, 1) := by decide +kernel
theorem dL_append_1 : decode cL_append 1 = .ok (.iconst 0, 1) := by decide +kernel
theorem dL_append_2 : decode cL_append 2 = .ok (.aload_n 0, 1) := by decide +kernel
theorem dL_append_3 : decode cL_append 3 = .ok (.iload_n 1, 1) := by decide +kernel
theorem dL_append_4 : decode cL_append 4 = .ok (.invokevirtual 33, 3) := by decide +kernel
theorem dL_append_7 : decode cL_append 7 = .ok (.i2l, 1) := by decide +kernel
theorem dL_append_8 : decode cL_append 8 = .ok (.lastore, 1) := by decide +kernel
theorem dL_append_9 : decode cL_append 9 = .ok (.goto 9, 3) := by decide +kernel
theorem dL_append_12 : decode cL_append 12 = .ok (.astore_n 3, 1) := by decide +kernel
theorem dL_append_13 : decode cL_append 13 = .ok (.iconst 1, 1) := by decide +kernel
theorem dL_append_14 : decode cL_append 14 = .ok (.ireturn, 1) := by decide +kernel
theorem dL_append_15 : decode cL_append 15 = .ok (.astore_n 3, 1) := by decide +kernel
theorem dL_append_16 : decode cL_append 16 = .ok (.iconst 2, 1) := by decide +kernel
theorem dL_append_17 : decode cL_append 17 = .ok (.ireturn, 1) := by decide +kernel
theorem dL_append_18 : decode cL_append 18 = .ok (.iconst 0, 1) := by decide +kernel
theorem dL_append_19 : decode cL_append 19 = .ok (.ireturn, 1) := by decide +kernel
theorem dL_load_0 : decode cL_load 0 = .ok (.aload_n 2, 1) := by decide +kernel
theorem dL_load_1 : decode cL_load 1 = .ok (.iconst 0, 1) := by decide +kernel
theorem dL_load_2 : decode cL_load 2 = .ok (.aload_n 0, 1) := by decide +kernel
theorem dL_load_3 : decode cL_load 3 = .ok (.iload_n 1, 1) := by decide +kernel
theorem dL_load_4 : decode cL_load 4 = .ok (.invokevirtual 36, 3) := by decide +kernel
theorem dL_load_7 : decode cL_load 7 = .ok (.i2l, 1) := by decide +kernel
theorem dL_load_8 : decode cL_load 8 = .ok (.lastore, 1) := by decide +kernel
theorem dL_load_9 : decode cL_load 9 = .ok (.goto 9, 3) := by decide +kernel
theorem dL_load_12 : decode cL_load 12 = .ok (.astore_n 3, 1) := by decide +kernel
theorem dL_load_13 : decode cL_load 13 = .ok (.iconst 1, 1) := by decide +kernel
theorem dL_load_14 : decode cL_load 14 = .ok (.ireturn, 1) := by decide +kernel
theorem dL_load_15 : decode cL_load 15 = .ok (.astore_n 3, 1) := by decide +kernel
theorem dL_load_16 : decode cL_load 16 = .ok (.iconst 2, 1) := by decide +kernel
theorem dL_load_17 : decode cL_load 17 = .ok (.ireturn, 1) := by decide +kernel
theorem dL_load_18 : decode cL_load 18 = .ok (.iconst 0, 1) := by decide +kernel
theorem dL_load_19 : decode cL_load 19 = .ok (.ireturn, 1) := by decide +kernel
theorem dL_undo_0 : decode cL_undo 0 = .ok (.aload_n 1, 1) := by decide +kernel
theorem dL_undo_1 : decode cL_undo 1 = .ok (.iconst 0, 1) := by decide +kernel
theorem dL_undo_2 : decode cL_undo 2 = .ok (.aload_n 0, 1) := by decide +kernel
theorem dL_undo_3 : decode cL_undo 3 = .ok (.invokevirtual 39, 3) := by decide +kernel
theorem dL_undo_6 : decode cL_undo 6 = .ok (.i2l, 1) := by decide +kernel
theorem dL_undo_7 : decode cL_undo 7 = .ok (.lastore, 1) := by decide +kernel
theorem dL_undo_8 : decode cL_undo 8 = .ok (.goto 6, 3) := by decide +kernel
theorem dL_undo_11 : decode cL_undo 11 = .ok (.astore_n 2, 1) := by decide +kernel
theorem dL_undo_12 : decode cL_undo 12 = .ok (.iconst 1, 1) := by decide +kernel
theorem dL_undo_13 : decode cL_undo 13 = .ok (.ireturn, 1) := by decide +kernel
theorem dL_undo_14 : decode cL_undo 14 = .ok (.iconst 0, 1) := by decide +kernel
theorem dL_undo_15 : decode cL_undo 15 = .ok (.ireturn, 1) := by decide +kernel
theorem dL_keep_0 : decode cL_keep 0 = .ok (.aload_n 2, 1) := by decide +kernel
theorem dL_keep_1 : decode cL_keep 1 = .ok (.iconst 0, 1) := by decide +kernel
theorem dL_keep_2 : decode cL_keep 2 = .ok (.aload_n 0, 1) := by decide +kernel
theorem dL_keep_3 : decode cL_keep 3 = .ok (.iload_n 1, 1) := by decide +kernel
theorem dL_keep_4 : decode cL_keep 4 = .ok (.invokevirtual 42, 3) := by decide +kernel
theorem dL_keep_7 : decode cL_keep 7 = .ok (.i2l, 1) := by decide +kernel
theorem dL_keep_8 : decode cL_keep 8 = .ok (.lastore, 1) := by decide +kernel
theorem dL_keep_9 : decode cL_keep 9 = .ok (.goto 6, 3) := by decide +kernel
theorem dL_keep_12 : decode cL_keep 12 = .ok (.astore_n 3, 1) := by decide +kernel
theorem dL_keep_13 : decode cL_keep 13 = .ok (.iconst 1, 1) := by decide +kernel
theorem dL_keep_14 : decode cL_keep 14 = .ok (.ireturn, 1) := by decide +kernel
theorem dL_keep_15 : decode cL_keep 15 = .ok (.iconst 0, 1) := by decide +kernel
theorem dL_keep_16 : decode cL_keep 16 = .ok (.ireturn, 1) := by decide +kernel
theorem dL_goBack_0 : decode cL_goBack 0 = .ok (.aload_n 2, 1) := by decide +kernel
theorem dL_goBack_1 : decode cL_goBack 1 = .ok (.iconst 0, 1) := by decide +kernel
theorem dL_goBack_2 : decode cL_goBack 2 = .ok (.aload_n 0, 1) := by decide +kernel
theorem dL_goBack_3 : decode cL_goBack 3 = .ok (.iload_n 1, 1) := by decide +kernel
theorem dL_goBack_4 : decode cL_goBack 4 = .ok (.invokevirtual 45, 3) := by decide +kernel
theorem dL_goBack_7 : decode cL_goBack 7 = .ok (.i2l, 1) := by decide +kernel
theorem dL_goBack_8 : decode cL_goBack 8 = .ok (.lastore, 1) := by decide +kernel
theorem dL_goBack_9 : decode cL_goBack 9 = .ok (.goto 9, 3) := by decide +kernel
theorem dL_goBack_12 : decode cL_goBack 12 = .ok (.astore_n 3, 1) := by decide +kernel
theorem dL_goBack_13 : decode cL_goBack 13 = .ok (.iconst 1, 1) := by decide +kernel
theorem dL_goBack_14 : decode cL_goBack 14 = .ok (.ireturn, 1) := by decide +kernel
theorem dL_goBack_15 : decode cL_goBack 15 = .ok (.astore_n 3, 1) := by decide +kernel
theorem dL_goBack_16 : decode cL_goBack 16 = .ok (.iconst 2, 1) := by decide +kernel
theorem dL_goBack_17 : decode cL_goBack 17 = .ok (.ireturn, 1) := by decide +kernel
theorem dL_goBack_18 : decode cL_goBack 18 = .ok (.iconst 0, 1) := by decide +kernel
theorem dL_goBack_19 : decode cL_goBack 19 = .ok (.ireturn, 1) := by decide +kernel
theorem dL_body_0 : decode cL_body 0 = .ok (.aload_n 3, 1) := by decide +kernel
theorem dL_body_1 : decode cL_body 1 = .ok (.iconst 0, 1) := by decide +kernel
theorem dL_body_2 : decode cL_body 2 = .ok (.aload_n 0, 1) := by decide +kernel
theorem dL_body_3 : decode cL_body 3 = .ok (.iload_n 1, 1) := by decide +kernel
theorem dL_body_4 : decode cL_body 4 = .ok (.iload_n 2, 1) := by decide +kernel
theorem dL_body_5 : decode cL_body 5 = .ok (.invokevirtual 48, 3) := by decide +kernel
theorem dL_body_8 : decode cL_body 8 = .ok (.i2l, 1) := by decide +kernel
theorem dL_body_9 : decode cL_body 9 = .ok (.lastore, 1) := by decide +kernel
theorem dL_body_10 : decode cL_body 10 = .ok (.goto 11, 3) := by decide +kernel
theorem dL_body_13 : decode cL_body 13 = .ok (.astore 4, 2) := by decide +kernel
theorem dL_body_15 : decode cL_body 15 = .ok (.iconst 1, 1) := by decide +kernel
theorem dL_body_16 : decode cL_body 16 = .ok (.ireturn, 1) := by decide +kernel
theorem dL_body_17 : decode cL_body 17 = .ok (.astore 4, 2) := by decide +kernel
theorem dL_body_19 : decode cL_body 19 = .ok (.iconst 2, 1) := by decide +kernel
theorem dL_body_20 : decode cL_body 20 = .ok (.ireturn, 1) := by decide +kernel
theorem dL_body_21 : decode cL_body 21 = .ok (.iconst 0, 1) := by decide +kernel
theorem dL_body_22 : decode cL_body 22 = .ok (.ireturn, 1) := by decide +kernel
theorem dL_uses_0 : decode cL_uses 0 = .ok (.aload_n 3, 1) := by decide +kernel
theorem dL_uses_1 : decode cL_uses 1 = .ok (.iconst 0, 1) := by decide +kernel
theorem dL_uses_2 : decode cL_uses 2 = .ok (.aload_n 0, 1) := by decide +kernel
theorem dL_uses_3 : decode cL_uses 3 = .ok (.iload_n 1, 1) := by decide +kernel
theorem dL_uses_4 : decode cL_uses 4 = .ok (.iload_n 2, 1) := by decide +kernel
theorem dL_uses_5 : decode cL_uses 5 = .ok (.invokevirtual 51, 3) := by decide +kernel
theorem dL_uses_8 : decode cL_uses 8 = .ok (.i2l, 1) := by decide +kernel
theorem dL_uses_9 : decode cL_uses 9 = .ok (.lastore, 1) := by decide +kernel
theorem dL_uses_10 : decode cL_uses 10 = .ok (.goto 11, 3) := by decide +kernel
theorem dL_uses_13 : decode cL_uses 13 = .ok (.astore 4, 2) := by decide +kernel
theorem dL_uses_15 : decode cL_uses 15 = .ok (.iconst 1, 1) := by decide +kernel
theorem dL_uses_16 : decode cL_uses 16 = .ok (.ireturn, 1) := by decide +kernel
theorem dL_uses_17 : decode cL_uses 17 = .ok (.astore 4, 2) := by decide +kernel
theorem dL_uses_19 : decode cL_uses 19 = .ok (.iconst 2, 1) := by decide +kernel
theorem dL_uses_20 : decode cL_uses 20 = .ok (.ireturn, 1) := by decide +kernel
theorem dL_uses_21 : decode cL_uses 21 = .ok (.iconst 0, 1) := by decide +kernel
theorem dL_uses_22 : decode cL_uses 22 = .ok (.ireturn, 1) := by decide +kernel
theorem dL_chain_0 : decode cL_chain 0 = .ok (.aload_n 2, 1) := by decide +kernel
theorem dL_chain_1 : decode cL_chain 1 = .ok (.iconst 0, 1) := by decide +kernel
theorem dL_chain_2 : decode cL_chain 2 = .ok (.aload_n 0, 1) := by decide +kernel
theorem dL_chain_3 : decode cL_chain 3 = .ok (.iload_n 1, 1) := by decide +kernel
theorem dL_chain_4 : decode cL_chain 4 = .ok (.invokevirtual 54, 3) := by decide +kernel
theorem dL_chain_7 : decode cL_chain 7 = .ok (.i2l, 1) := by decide +kernel
theorem dL_chain_8 : decode cL_chain 8 = .ok (.lastore, 1) := by decide +kernel
theorem dL_chain_9 : decode cL_chain 9 = .ok (.goto 6, 3) := by decide +kernel
theorem dL_chain_12 : decode cL_chain 12 = .ok (.astore_n 3, 1) := by decide +kernel
theorem dL_chain_13 : decode cL_chain 13 = .ok (.iconst 1, 1) := by decide +kernel
theorem dL_chain_14 : decode cL_chain 14 = .ok (.ireturn, 1) := by decide +kernel
theorem dL_chain_15 : decode cL_chain 15 = .ok (.iconst 0, 1) := by decide +kernel
theorem dL_chain_16 : decode cL_chain 16 = .ok (.ireturn, 1) := by decide +kernel
theorem dL_ifDefined_0 : decode cL_ifDefined 0 = .ok (.aload_n 2, 1) := by decide +kernel
theorem dL_ifDefined_1 : decode cL_ifDefined 1 = .ok (.iconst 0, 1) := by decide +kernel
theorem dL_ifDefined_2 : decode cL_ifDefined 2 = .ok (.aload_n 0, 1) := by decide +kernel
theorem dL_ifDefined_3 : decode cL_ifDefined 3 = .ok (.iload_n 1, 1) := by decide +kernel
theorem dL_ifDefined_4 : decode cL_ifDefined 4 = .ok (.invokevirtual 57, 3) := by decide +kernel
theorem dL_ifDefined_7 : decode cL_ifDefined 7 = .ok (.i2l, 1) := by decide +kernel
theorem dL_ifDefined_8 : decode cL_ifDefined 8 = .ok (.lastore, 1) := by decide +kernel
theorem dL_ifDefined_9 : decode cL_ifDefined 9 = .ok (.goto 9, 3) := by decide +kernel
theorem dL_ifDefined_12 : decode cL_ifDefined 12 = .ok (.astore_n 3, 1) := by decide +kernel
theorem dL_ifDefined_13 : decode cL_ifDefined 13 = .ok (.iconst 1, 1) := by decide +kernel
theorem dL_ifDefined_14 : decode cL_ifDefined 14 = .ok (.ireturn, 1) := by decide +kernel
theorem dL_ifDefined_15 : decode cL_ifDefined 15 = .ok (.astore_n 3, 1) := by decide +kernel
theorem dL_ifDefined_16 : decode cL_ifDefined 16 = .ok (.iconst 2, 1) := by decide +kernel
theorem dL_ifDefined_17 : decode cL_ifDefined 17 = .ok (.ireturn, 1) := by decide +kernel
theorem dL_ifDefined_18 : decode cL_ifDefined 18 = .ok (.iconst 0, 1) := by decide +kernel
theorem dL_ifDefined_19 : decode cL_ifDefined 19 = .ok (.ireturn, 1) := by decide +kernel
theorem dL_sign_0 : decode cL_sign 0 = .ok (.aload_n 2, 1) := by decide +kernel
theorem dL_sign_1 : decode cL_sign 1 = .ok (.iconst 0, 1) := by decide +kernel
theorem dL_sign_2 : decode cL_sign 2 = .ok (.aload_n 0, 1) := by decide +kernel
theorem dL_sign_3 : decode cL_sign 3 = .ok (.iload_n 1, 1) := by decide +kernel
theorem dL_sign_4 : decode cL_sign 4 = .ok (.invokevirtual 60, 3) := by decide +kernel
theorem dL_sign_7 : decode cL_sign 7 = .ok (.i2l, 1) := by decide +kernel
theorem dL_sign_8 : decode cL_sign 8 = .ok (.lastore, 1) := by decide +kernel
theorem dL_sign_9 : decode cL_sign 9 = .ok (.goto 6, 3) := by decide +kernel
theorem dL_sign_12 : decode cL_sign 12 = .ok (.astore_n 3, 1) := by decide +kernel
theorem dL_sign_13 : decode cL_sign 13 = .ok (.iconst 1, 1) := by decide +kernel
theorem dL_sign_14 : decode cL_sign 14 = .ok (.ireturn, 1) := by decide +kernel
theorem dL_sign_15 : decode cL_sign 15 = .ok (.iconst 0, 1) := by decide +kernel
theorem dL_sign_16 : decode cL_sign 16 = .ok (.ireturn, 1) := by decide +kernel
theorem dL_result_0 : decode cL_result 0 = .ok (.aload_n 2, 1) := by decide +kernel
theorem dL_result_1 : decode cL_result 1 = .ok (.iconst 0, 1) := by decide +kernel
theorem dL_result_2 : decode cL_result 2 = .ok (.aload_n 0, 1) := by decide +kernel
theorem dL_result_3 : decode cL_result 3 = .ok (.iload_n 1, 1) := by decide +kernel
theorem dL_result_4 : decode cL_result 4 = .ok (.invokevirtual 63, 3) := by decide +kernel
theorem dL_result_7 : decode cL_result 7 = .ok (.i2l, 1) := by decide +kernel
theorem dL_result_8 : decode cL_result 8 = .ok (.lastore, 1) := by decide +kernel
theorem dL_result_9 : decode cL_result 9 = .ok (.goto 6, 3) := by decide +kernel
theorem dL_result_12 : decode cL_result 12 = .ok (.astore_n 3, 1) := by decide +kernel
theorem dL_result_13 : decode cL_result 13 = .ok (.iconst 1, 1) := by decide +kernel
theorem dL_result_14 : decode cL_result 14 = .ok (.ireturn, 1) := by decide +kernel
theorem dL_result_15 : decode cL_result 15 = .ok (.iconst 0, 1) := by decide +kernel
theorem dL_result_16 : decode cL_result 16 = .ok (.ireturn, 1) := by decide +kernel
theorem dL_trace_0 : decode cL_trace 0 = .ok (.aload_n 3, 1) := by decide +kernel
theorem dL_trace_1 : decode cL_trace 1 = .ok (.iconst 0, 1) := by decide +kernel
theorem dL_trace_2 : decode cL_trace 2 = .ok (.aload_n 0, 1) := by decide +kernel
theorem dL_trace_3 : decode cL_trace 3 = .ok (.iload_n 1, 1) := by decide +kernel
theorem dL_trace_4 : decode cL_trace 4 = .ok (.iload_n 2, 1) := by decide +kernel
theorem dL_trace_5 : decode cL_trace 5 = .ok (.invokevirtual 66, 3) := by decide +kernel
theorem dL_trace_8 : decode cL_trace 8 = .ok (.i2l, 1) := by decide +kernel
theorem dL_trace_9 : decode cL_trace 9 = .ok (.lastore, 1) := by decide +kernel
theorem dL_trace_10 : decode cL_trace 10 = .ok (.goto 7, 3) := by decide +kernel
theorem dL_trace_13 : decode cL_trace 13 = .ok (.astore 4, 2) := by decide +kernel
theorem dL_trace_15 : decode cL_trace 15 = .ok (.iconst 1, 1) := by decide +kernel
theorem dL_trace_16 : decode cL_trace 16 = .ok (.ireturn, 1) := by decide +kernel
theorem dL_trace_17 : decode cL_trace 17 = .ok (.iconst 0, 1) := by decide +kernel
theorem dL_trace_18 : decode cL_trace 18 = .ok (.ireturn, 1) := by decide +kernel
theorem dL_lengthOf_0 : decode cL_lengthOf 0 = .ok (.aload_n 3, 1) := by decide +kernel
theorem dL_lengthOf_1 : decode cL_lengthOf 1 = .ok (.iconst 0, 1) := by decide +kernel
theorem dL_lengthOf_2 : decode cL_lengthOf 2 = .ok (.aload_n 0, 1) := by decide +kernel
theorem dL_lengthOf_3 : decode cL_lengthOf 3 = .ok (.iload_n 1, 1) := by decide +kernel
theorem dL_lengthOf_4 : decode cL_lengthOf 4 = .ok (.iload_n 2, 1) := by decide +kernel
theorem dL_lengthOf_5 : decode cL_lengthOf 5 = .ok (.invokevirtual 69, 3) := by decide +kernel
theorem dL_lengthOf_8 : decode cL_lengthOf 8 = .ok (.i2l, 1) := by decide +kernel
theorem dL_lengthOf_9 : decode cL_lengthOf 9 = .ok (.lastore, 1) := by decide +kernel
theorem dL_lengthOf_10 : decode cL_lengthOf 10 = .ok (.goto 11, 3) := by decide +kernel
theorem dL_lengthOf_13 : decode cL_lengthOf 13 = .ok (.astore 4, 2) := by decide +kernel
theorem dL_lengthOf_15 : decode cL_lengthOf 15 = .ok (.iconst 1, 1) := by decide +kernel
theorem dL_lengthOf_16 : decode cL_lengthOf 16 = .ok (.ireturn, 1) := by decide +kernel
theorem dL_lengthOf_17 : decode cL_lengthOf 17 = .ok (.astore 4, 2) := by decide +kernel
theorem dL_lengthOf_19 : decode cL_lengthOf 19 = .ok (.iconst 2, 1) := by decide +kernel
theorem dL_lengthOf_20 : decode cL_lengthOf 20 = .ok (.ireturn, 1) := by decide +kernel
theorem dL_lengthOf_21 : decode cL_lengthOf 21 = .ok (.iconst 0, 1) := by decide +kernel
theorem dL_lengthOf_22 : decode cL_lengthOf 22 = .ok (.ireturn, 1) := by decide +kernel
theorem dL_count_0 : decode cL_count 0 = .ok (.aload_n 2, 1) := by decide +kernel
theorem dL_count_1 : decode cL_count 1 = .ok (.iconst 0, 1) := by decide +kernel
theorem dL_count_2 : decode cL_count 2 = .ok (.aload_n 0, 1) := by decide +kernel
theorem dL_count_3 : decode cL_count 3 = .ok (.iload_n 1, 1) := by decide +kernel
theorem dL_count_4 : decode cL_count 4 = .ok (.invokevirtual 72, 3) := by decide +kernel
theorem dL_count_7 : decode cL_count 7 = .ok (.i2l, 1) := by decide +kernel
theorem dL_count_8 : decode cL_count 8 = .ok (.lastore, 1) := by decide +kernel
theorem dL_count_9 : decode cL_count 9 = .ok (.goto 6, 3) := by decide +kernel
theorem dL_count_12 : decode cL_count 12 = .ok (.astore_n 3, 1) := by decide +kernel
theorem dL_count_13 : decode cL_count 13 = .ok (.iconst 1, 1) := by decide +kernel
theorem dL_count_14 : decode cL_count 14 = .ok (.ireturn, 1) := by decide +kernel
theorem dL_count_15 : decode cL_count 15 = .ok (.iconst 0, 1) := by decide +kernel
theorem dL_count_16 : decode cL_count 16 = .ok (.ireturn, 1) := by decide +kernel
theorem dL_law_0 : decode cL_law 0 = .ok (.new 8, 3) := by decide +kernel
theorem dL_law_3 : decode cL_law 3 = .ok (.dup, 1) := by decide +kernel
theorem dL_law_4 : decode cL_law 4 = .ok (.invokespecial 75, 3) := by decide +kernel
theorem dL_law_7 : decode cL_law 7 = .ok (.astore_n 1, 1) := by decide +kernel
theorem dL_law_8 : decode cL_law 8 = .ok (.new 76, 3) := by decide +kernel
theorem dL_law_11 : decode cL_law 11 = .ok (.dup, 1) := by decide +kernel
theorem dL_law_12 : decode cL_law 12 = .ok (.invokespecial 78, 3) := by decide +kernel
theorem dL_law_15 : decode cL_law 15 = .ok (.astore_n 2, 1) := by decide +kernel
theorem dL_law_16 : decode cL_law 16 = .ok (.iconst 1, 1) := by decide +kernel
theorem dL_law_17 : decode cL_law 17 = .ok (.newarray .long, 2) := by decide +kernel
theorem dL_law_19 : decode cL_law 19 = .ok (.astore_n 3, 1) := by decide +kernel
theorem dL_law_20 : decode cL_law 20 = .ok (.iconst 0, 1) := by decide +kernel
theorem dL_law_21 : decode cL_law 21 = .ok (.istore 4, 2) := by decide +kernel
theorem dL_law_23 : decode cL_law 23 = .ok (.iload 4, 2) := by decide +kernel
theorem dL_law_25 : decode cL_law 25 = .ok (.aload_n 0, 1) := by decide +kernel
theorem dL_law_26 : decode cL_law 26 = .ok (.arraylength, 1) := by decide +kernel
theorem dL_law_27 : decode cL_law 27 = .ok (.iconst 3, 1) := by decide +kernel
theorem dL_law_28 : decode cL_law 28 = .ok (.isub, 1) := by decide +kernel
theorem dL_law_29 : decode cL_law 29 = .ok (.if_icmp .gt 1318, 3) := by decide +kernel
theorem dL_law_32 : decode cL_law 32 = .ok (.aload_n 0, 1) := by decide +kernel
theorem dL_law_33 : decode cL_law 33 = .ok (.iload 4, 2) := by decide +kernel
theorem dL_law_35 : decode cL_law 35 = .ok (.iaload, 1) := by decide +kernel
theorem dL_law_36 : decode cL_law 36 = .ok (.bipush 31, 2) := by decide +kernel
theorem dL_law_38 : decode cL_law 38 = .ok (.iand, 1) := by decide +kernel
theorem dL_law_39 : decode cL_law 39 = .ok (.tableswitch 1302 0 23 #[109, 165, 221, 289, 345, 389, 445, 458, 471, 527, 571, 627, 683, 751, 819, 832, 845, 901, 957, 1013, 1069, 1137, 1205, 1261], 109) := by decide +kernel
theorem dL_law_148 : decode cL_law 148 = .ok (.aload_n 1, 1) := by decide +kernel
theorem dL_law_149 : decode cL_law 149 = .ok (.aload_n 0, 1) := by decide +kernel
theorem dL_law_150 : decode cL_law 150 = .ok (.iload 4, 2) := by decide +kernel
theorem dL_law_152 : decode cL_law 152 = .ok (.iconst 1, 1) := by decide +kernel
theorem dL_law_153 : decode cL_law 153 = .ok (.iadd, 1) := by decide +kernel
theorem dL_law_154 : decode cL_law 154 = .ok (.iaload, 1) := by decide +kernel
theorem dL_law_155 : decode cL_law 155 = .ok (.aload_n 3, 1) := by decide +kernel
theorem dL_law_156 : decode cL_law 156 = .ok (.invokestatic 79, 3) := by decide +kernel
theorem dL_law_159 : decode cL_law 159 = .ok (.istore 5, 2) := by decide +kernel
theorem dL_law_161 : decode cL_law 161 = .ok (.aload_n 2, 1) := by decide +kernel
theorem dL_law_162 : decode cL_law 162 = .ok (.aload_n 0, 1) := by decide +kernel
theorem dL_law_163 : decode cL_law 163 = .ok (.iload 4, 2) := by decide +kernel
theorem dL_law_165 : decode cL_law 165 = .ok (.iconst 1, 1) := by decide +kernel
theorem dL_law_166 : decode cL_law 166 = .ok (.iadd, 1) := by decide +kernel
theorem dL_law_167 : decode cL_law 167 = .ok (.iaload, 1) := by decide +kernel
theorem dL_law_168 : decode cL_law 168 = .ok (.invokevirtual 84, 3) := by decide +kernel
theorem dL_law_171 : decode cL_law 171 = .ok (.istore 6, 2) := by decide +kernel
theorem dL_law_173 : decode cL_law 173 = .ok (.aload_n 2, 1) := by decide +kernel
theorem dL_law_174 : decode cL_law 174 = .ok (.invokevirtual 85, 3) := by decide +kernel
theorem dL_law_177 : decode cL_law 177 = .ok (.iload 5, 2) := by decide +kernel
theorem dL_law_179 : decode cL_law 179 = .ok (.if_icmp .eq 5, 3) := by decide +kernel
theorem dL_law_182 : decode cL_law 182 = .ok (.iconst 0, 1) := by decide +kernel
theorem dL_law_183 : decode cL_law 183 = .ok (.ireturn, 1) := by decide +kernel
theorem dL_law_184 : decode cL_law 184 = .ok (.iload 5, 2) := by decide +kernel
theorem dL_law_186 : decode cL_law 186 = .ok (.ifCond .ne 15, 3) := by decide +kernel
theorem dL_law_189 : decode cL_law 189 = .ok (.aload_n 3, 1) := by decide +kernel
theorem dL_law_190 : decode cL_law 190 = .ok (.iconst 0, 1) := by decide +kernel
theorem dL_law_191 : decode cL_law 191 = .ok (.laload, 1) := by decide +kernel
theorem dL_law_192 : decode cL_law 192 = .ok (.iload 6, 2) := by decide +kernel
theorem dL_law_194 : decode cL_law 194 = .ok (.i2l, 1) := by decide +kernel
theorem dL_law_195 : decode cL_law 195 = .ok (.lcmp, 1) := by decide +kernel
theorem dL_law_196 : decode cL_law 196 = .ok (.ifCond .eq 5, 3) := by decide +kernel
theorem dL_law_199 : decode cL_law 199 = .ok (.iconst 0, 1) := by decide +kernel
theorem dL_law_200 : decode cL_law 200 = .ok (.ireturn, 1) := by decide +kernel
theorem dL_law_201 : decode cL_law 201 = .ok (.goto 1140, 3) := by decide +kernel
theorem dL_law_204 : decode cL_law 204 = .ok (.aload_n 1, 1) := by decide +kernel
theorem dL_law_205 : decode cL_law 205 = .ok (.aload_n 0, 1) := by decide +kernel
theorem dL_law_206 : decode cL_law 206 = .ok (.iload 4, 2) := by decide +kernel
theorem dL_law_208 : decode cL_law 208 = .ok (.iconst 1, 1) := by decide +kernel
theorem dL_law_209 : decode cL_law 209 = .ok (.iadd, 1) := by decide +kernel
theorem dL_law_210 : decode cL_law 210 = .ok (.iaload, 1) := by decide +kernel
theorem dL_law_211 : decode cL_law 211 = .ok (.aload_n 3, 1) := by decide +kernel
theorem dL_law_212 : decode cL_law 212 = .ok (.invokestatic 88, 3) := by decide +kernel
theorem dL_law_215 : decode cL_law 215 = .ok (.istore 5, 2) := by decide +kernel
theorem dL_law_217 : decode cL_law 217 = .ok (.aload_n 2, 1) := by decide +kernel
theorem dL_law_218 : decode cL_law 218 = .ok (.aload_n 0, 1) := by decide +kernel
theorem dL_law_219 : decode cL_law 219 = .ok (.iload 4, 2) := by decide +kernel
theorem dL_law_221 : decode cL_law 221 = .ok (.iconst 1, 1) := by decide +kernel
theorem dL_law_222 : decode cL_law 222 = .ok (.iadd, 1) := by decide +kernel
theorem dL_law_223 : decode cL_law 223 = .ok (.iaload, 1) := by decide +kernel
theorem dL_law_224 : decode cL_law 224 = .ok (.invokevirtual 90, 3) := by decide +kernel
theorem dL_law_227 : decode cL_law 227 = .ok (.istore 6, 2) := by decide +kernel
theorem dL_law_229 : decode cL_law 229 = .ok (.aload_n 2, 1) := by decide +kernel
theorem dL_law_230 : decode cL_law 230 = .ok (.invokevirtual 85, 3) := by decide +kernel
theorem dL_law_233 : decode cL_law 233 = .ok (.iload 5, 2) := by decide +kernel
theorem dL_law_235 : decode cL_law 235 = .ok (.if_icmp .eq 5, 3) := by decide +kernel
theorem dL_law_238 : decode cL_law 238 = .ok (.iconst 0, 1) := by decide +kernel
theorem dL_law_239 : decode cL_law 239 = .ok (.ireturn, 1) := by decide +kernel
theorem dL_law_240 : decode cL_law 240 = .ok (.iload 5, 2) := by decide +kernel
theorem dL_law_242 : decode cL_law 242 = .ok (.ifCond .ne 15, 3) := by decide +kernel
theorem dL_law_245 : decode cL_law 245 = .ok (.aload_n 3, 1) := by decide +kernel
theorem dL_law_246 : decode cL_law 246 = .ok (.iconst 0, 1) := by decide +kernel
theorem dL_law_247 : decode cL_law 247 = .ok (.laload, 1) := by decide +kernel
theorem dL_law_248 : decode cL_law 248 = .ok (.iload 6, 2) := by decide +kernel
theorem dL_law_250 : decode cL_law 250 = .ok (.i2l, 1) := by decide +kernel
theorem dL_law_251 : decode cL_law 251 = .ok (.lcmp, 1) := by decide +kernel
theorem dL_law_252 : decode cL_law 252 = .ok (.ifCond .eq 5, 3) := by decide +kernel
theorem dL_law_255 : decode cL_law 255 = .ok (.iconst 0, 1) := by decide +kernel
theorem dL_law_256 : decode cL_law 256 = .ok (.ireturn, 1) := by decide +kernel
theorem dL_law_257 : decode cL_law 257 = .ok (.goto 1084, 3) := by decide +kernel
theorem dL_law_260 : decode cL_law 260 = .ok (.aload_n 1, 1) := by decide +kernel
theorem dL_law_261 : decode cL_law 261 = .ok (.aload_n 0, 1) := by decide +kernel
theorem dL_law_262 : decode cL_law 262 = .ok (.iload 4, 2) := by decide +kernel
theorem dL_law_264 : decode cL_law 264 = .ok (.iconst 1, 1) := by decide +kernel
theorem dL_law_265 : decode cL_law 265 = .ok (.iadd, 1) := by decide +kernel
theorem dL_law_266 : decode cL_law 266 = .ok (.iaload, 1) := by decide +kernel
theorem dL_law_267 : decode cL_law 267 = .ok (.aload_n 0, 1) := by decide +kernel
theorem dL_law_268 : decode cL_law 268 = .ok (.iload 4, 2) := by decide +kernel
theorem dL_law_270 : decode cL_law 270 = .ok (.iconst 2, 1) := by decide +kernel
theorem dL_law_271 : decode cL_law 271 = .ok (.iadd, 1) := by decide +kernel
theorem dL_law_272 : decode cL_law 272 = .ok (.iaload, 1) := by decide +kernel
theorem dL_law_273 : decode cL_law 273 = .ok (.aload_n 3, 1) := by decide +kernel
theorem dL_law_274 : decode cL_law 274 = .ok (.invokestatic 91, 3) := by decide +kernel
theorem dL_law_277 : decode cL_law 277 = .ok (.istore 5, 2) := by decide +kernel
theorem dL_law_279 : decode cL_law 279 = .ok (.aload_n 2, 1) := by decide +kernel
theorem dL_law_280 : decode cL_law 280 = .ok (.aload_n 0, 1) := by decide +kernel
theorem dL_law_281 : decode cL_law 281 = .ok (.iload 4, 2) := by decide +kernel
theorem dL_law_283 : decode cL_law 283 = .ok (.iconst 1, 1) := by decide +kernel
theorem dL_law_284 : decode cL_law 284 = .ok (.iadd, 1) := by decide +kernel
theorem dL_law_285 : decode cL_law 285 = .ok (.iaload, 1) := by decide +kernel
theorem dL_law_286 : decode cL_law 286 = .ok (.aload_n 0, 1) := by decide +kernel
theorem dL_law_287 : decode cL_law 287 = .ok (.iload 4, 2) := by decide +kernel
theorem dL_law_289 : decode cL_law 289 = .ok (.iconst 2, 1) := by decide +kernel
theorem dL_law_290 : decode cL_law 290 = .ok (.iadd, 1) := by decide +kernel
theorem dL_law_291 : decode cL_law 291 = .ok (.iaload, 1) := by decide +kernel
theorem dL_law_292 : decode cL_law 292 = .ok (.invokevirtual 94, 3) := by decide +kernel
theorem dL_law_295 : decode cL_law 295 = .ok (.istore 6, 2) := by decide +kernel
theorem dL_law_297 : decode cL_law 297 = .ok (.aload_n 2, 1) := by decide +kernel
theorem dL_law_298 : decode cL_law 298 = .ok (.invokevirtual 85, 3) := by decide +kernel
theorem dL_law_301 : decode cL_law 301 = .ok (.iload 5, 2) := by decide +kernel
theorem dL_law_303 : decode cL_law 303 = .ok (.if_icmp .eq 5, 3) := by decide +kernel
theorem dL_law_306 : decode cL_law 306 = .ok (.iconst 0, 1) := by decide +kernel
theorem dL_law_307 : decode cL_law 307 = .ok (.ireturn, 1) := by decide +kernel
theorem dL_law_308 : decode cL_law 308 = .ok (.iload 5, 2) := by decide +kernel
theorem dL_law_310 : decode cL_law 310 = .ok (.ifCond .ne 15, 3) := by decide +kernel
theorem dL_law_313 : decode cL_law 313 = .ok (.aload_n 3, 1) := by decide +kernel
theorem dL_law_314 : decode cL_law 314 = .ok (.iconst 0, 1) := by decide +kernel
theorem dL_law_315 : decode cL_law 315 = .ok (.laload, 1) := by decide +kernel
theorem dL_law_316 : decode cL_law 316 = .ok (.iload 6, 2) := by decide +kernel
theorem dL_law_318 : decode cL_law 318 = .ok (.i2l, 1) := by decide +kernel
theorem dL_law_319 : decode cL_law 319 = .ok (.lcmp, 1) := by decide +kernel
theorem dL_law_320 : decode cL_law 320 = .ok (.ifCond .eq 5, 3) := by decide +kernel
theorem dL_law_323 : decode cL_law 323 = .ok (.iconst 0, 1) := by decide +kernel
theorem dL_law_324 : decode cL_law 324 = .ok (.ireturn, 1) := by decide +kernel
theorem dL_law_325 : decode cL_law 325 = .ok (.goto 1016, 3) := by decide +kernel
theorem dL_law_328 : decode cL_law 328 = .ok (.aload_n 1, 1) := by decide +kernel
theorem dL_law_329 : decode cL_law 329 = .ok (.aload_n 0, 1) := by decide +kernel
theorem dL_law_330 : decode cL_law 330 = .ok (.iload 4, 2) := by decide +kernel
theorem dL_law_332 : decode cL_law 332 = .ok (.iconst 1, 1) := by decide +kernel
theorem dL_law_333 : decode cL_law 333 = .ok (.iadd, 1) := by decide +kernel
theorem dL_law_334 : decode cL_law 334 = .ok (.iaload, 1) := by decide +kernel
theorem dL_law_335 : decode cL_law 335 = .ok (.aload_n 3, 1) := by decide +kernel
theorem dL_law_336 : decode cL_law 336 = .ok (.invokestatic 95, 3) := by decide +kernel
theorem dL_law_339 : decode cL_law 339 = .ok (.istore 5, 2) := by decide +kernel
theorem dL_law_341 : decode cL_law 341 = .ok (.aload_n 2, 1) := by decide +kernel
theorem dL_law_342 : decode cL_law 342 = .ok (.aload_n 0, 1) := by decide +kernel
theorem dL_law_343 : decode cL_law 343 = .ok (.iload 4, 2) := by decide +kernel
theorem dL_law_345 : decode cL_law 345 = .ok (.iconst 1, 1) := by decide +kernel
theorem dL_law_346 : decode cL_law 346 = .ok (.iadd, 1) := by decide +kernel
theorem dL_law_347 : decode cL_law 347 = .ok (.iaload, 1) := by decide +kernel
theorem dL_law_348 : decode cL_law 348 = .ok (.invokevirtual 97, 3) := by decide +kernel
theorem dL_law_351 : decode cL_law 351 = .ok (.istore 6, 2) := by decide +kernel
theorem dL_law_353 : decode cL_law 353 = .ok (.aload_n 2, 1) := by decide +kernel
theorem dL_law_354 : decode cL_law 354 = .ok (.invokevirtual 85, 3) := by decide +kernel
theorem dL_law_357 : decode cL_law 357 = .ok (.iload 5, 2) := by decide +kernel
theorem dL_law_359 : decode cL_law 359 = .ok (.if_icmp .eq 5, 3) := by decide +kernel
theorem dL_law_362 : decode cL_law 362 = .ok (.iconst 0, 1) := by decide +kernel
theorem dL_law_363 : decode cL_law 363 = .ok (.ireturn, 1) := by decide +kernel
theorem dL_law_364 : decode cL_law 364 = .ok (.iload 5, 2) := by decide +kernel
theorem dL_law_366 : decode cL_law 366 = .ok (.ifCond .ne 15, 3) := by decide +kernel
theorem dL_law_369 : decode cL_law 369 = .ok (.aload_n 3, 1) := by decide +kernel
theorem dL_law_370 : decode cL_law 370 = .ok (.iconst 0, 1) := by decide +kernel
theorem dL_law_371 : decode cL_law 371 = .ok (.laload, 1) := by decide +kernel
theorem dL_law_372 : decode cL_law 372 = .ok (.iload 6, 2) := by decide +kernel
theorem dL_law_374 : decode cL_law 374 = .ok (.i2l, 1) := by decide +kernel
theorem dL_law_375 : decode cL_law 375 = .ok (.lcmp, 1) := by decide +kernel
theorem dL_law_376 : decode cL_law 376 = .ok (.ifCond .eq 5, 3) := by decide +kernel
theorem dL_law_379 : decode cL_law 379 = .ok (.iconst 0, 1) := by decide +kernel
theorem dL_law_380 : decode cL_law 380 = .ok (.ireturn, 1) := by decide +kernel
theorem dL_law_381 : decode cL_law 381 = .ok (.goto 960, 3) := by decide +kernel
theorem dL_law_384 : decode cL_law 384 = .ok (.aload_n 1, 1) := by decide +kernel
theorem dL_law_385 : decode cL_law 385 = .ok (.aload_n 3, 1) := by decide +kernel
theorem dL_law_386 : decode cL_law 386 = .ok (.invokestatic 98, 3) := by decide +kernel
theorem dL_law_389 : decode cL_law 389 = .ok (.istore 5, 2) := by decide +kernel
theorem dL_law_391 : decode cL_law 391 = .ok (.aload_n 2, 1) := by decide +kernel
theorem dL_law_392 : decode cL_law 392 = .ok (.invokevirtual 101, 3) := by decide +kernel
theorem dL_law_395 : decode cL_law 395 = .ok (.istore 6, 2) := by decide +kernel
theorem dL_law_397 : decode cL_law 397 = .ok (.aload_n 2, 1) := by decide +kernel
theorem dL_law_398 : decode cL_law 398 = .ok (.invokevirtual 85, 3) := by decide +kernel
theorem dL_law_401 : decode cL_law 401 = .ok (.iload 5, 2) := by decide +kernel
theorem dL_law_403 : decode cL_law 403 = .ok (.if_icmp .eq 5, 3) := by decide +kernel
theorem dL_law_406 : decode cL_law 406 = .ok (.iconst 0, 1) := by decide +kernel
theorem dL_law_407 : decode cL_law 407 = .ok (.ireturn, 1) := by decide +kernel
theorem dL_law_408 : decode cL_law 408 = .ok (.iload 5, 2) := by decide +kernel
theorem dL_law_410 : decode cL_law 410 = .ok (.ifCond .ne 15, 3) := by decide +kernel
theorem dL_law_413 : decode cL_law 413 = .ok (.aload_n 3, 1) := by decide +kernel
theorem dL_law_414 : decode cL_law 414 = .ok (.iconst 0, 1) := by decide +kernel
theorem dL_law_415 : decode cL_law 415 = .ok (.laload, 1) := by decide +kernel
theorem dL_law_416 : decode cL_law 416 = .ok (.iload 6, 2) := by decide +kernel
theorem dL_law_418 : decode cL_law 418 = .ok (.i2l, 1) := by decide +kernel
theorem dL_law_419 : decode cL_law 419 = .ok (.lcmp, 1) := by decide +kernel
theorem dL_law_420 : decode cL_law 420 = .ok (.ifCond .eq 5, 3) := by decide +kernel
theorem dL_law_423 : decode cL_law 423 = .ok (.iconst 0, 1) := by decide +kernel
theorem dL_law_424 : decode cL_law 424 = .ok (.ireturn, 1) := by decide +kernel
theorem dL_law_425 : decode cL_law 425 = .ok (.goto 916, 3) := by decide +kernel
theorem dL_law_428 : decode cL_law 428 = .ok (.aload_n 1, 1) := by decide +kernel
theorem dL_law_429 : decode cL_law 429 = .ok (.aload_n 0, 1) := by decide +kernel
theorem dL_law_430 : decode cL_law 430 = .ok (.iload 4, 2) := by decide +kernel
theorem dL_law_432 : decode cL_law 432 = .ok (.iconst 1, 1) := by decide +kernel
theorem dL_law_433 : decode cL_law 433 = .ok (.iadd, 1) := by decide +kernel
theorem dL_law_434 : decode cL_law 434 = .ok (.iaload, 1) := by decide +kernel
theorem dL_law_435 : decode cL_law 435 = .ok (.aload_n 3, 1) := by decide +kernel
theorem dL_law_436 : decode cL_law 436 = .ok (.invokestatic 102, 3) := by decide +kernel
theorem dL_law_439 : decode cL_law 439 = .ok (.istore 5, 2) := by decide +kernel
theorem dL_law_441 : decode cL_law 441 = .ok (.aload_n 2, 1) := by decide +kernel
theorem dL_law_442 : decode cL_law 442 = .ok (.aload_n 0, 1) := by decide +kernel
theorem dL_law_443 : decode cL_law 443 = .ok (.iload 4, 2) := by decide +kernel
theorem dL_law_445 : decode cL_law 445 = .ok (.iconst 1, 1) := by decide +kernel
theorem dL_law_446 : decode cL_law 446 = .ok (.iadd, 1) := by decide +kernel
theorem dL_law_447 : decode cL_law 447 = .ok (.iaload, 1) := by decide +kernel
theorem dL_law_448 : decode cL_law 448 = .ok (.invokevirtual 104, 3) := by decide +kernel
theorem dL_law_451 : decode cL_law 451 = .ok (.istore 6, 2) := by decide +kernel
theorem dL_law_453 : decode cL_law 453 = .ok (.aload_n 2, 1) := by decide +kernel
theorem dL_law_454 : decode cL_law 454 = .ok (.invokevirtual 85, 3) := by decide +kernel
theorem dL_law_457 : decode cL_law 457 = .ok (.iload 5, 2) := by decide +kernel
theorem dL_law_459 : decode cL_law 459 = .ok (.if_icmp .eq 5, 3) := by decide +kernel
theorem dL_law_462 : decode cL_law 462 = .ok (.iconst 0, 1) := by decide +kernel
theorem dL_law_463 : decode cL_law 463 = .ok (.ireturn, 1) := by decide +kernel
theorem dL_law_464 : decode cL_law 464 = .ok (.iload 5, 2) := by decide +kernel
theorem dL_law_466 : decode cL_law 466 = .ok (.ifCond .ne 15, 3) := by decide +kernel
theorem dL_law_469 : decode cL_law 469 = .ok (.aload_n 3, 1) := by decide +kernel
theorem dL_law_470 : decode cL_law 470 = .ok (.iconst 0, 1) := by decide +kernel
theorem dL_law_471 : decode cL_law 471 = .ok (.laload, 1) := by decide +kernel
theorem dL_law_472 : decode cL_law 472 = .ok (.iload 6, 2) := by decide +kernel
theorem dL_law_474 : decode cL_law 474 = .ok (.i2l, 1) := by decide +kernel
theorem dL_law_475 : decode cL_law 475 = .ok (.lcmp, 1) := by decide +kernel
theorem dL_law_476 : decode cL_law 476 = .ok (.ifCond .eq 5, 3) := by decide +kernel
theorem dL_law_479 : decode cL_law 479 = .ok (.iconst 0, 1) := by decide +kernel
theorem dL_law_480 : decode cL_law 480 = .ok (.ireturn, 1) := by decide +kernel
theorem dL_law_481 : decode cL_law 481 = .ok (.goto 860, 3) := by decide +kernel
theorem dL_law_484 : decode cL_law 484 = .ok (.aload_n 1, 1) := by decide +kernel
theorem dL_law_485 : decode cL_law 485 = .ok (.invokevirtual 105, 3) := by decide +kernel
theorem dL_law_488 : decode cL_law 488 = .ok (.aload_n 2, 1) := by decide +kernel
theorem dL_law_489 : decode cL_law 489 = .ok (.invokevirtual 108, 3) := by decide +kernel
theorem dL_law_492 : decode cL_law 492 = .ok (.if_icmp .eq 849, 3) := by decide +kernel
theorem dL_law_495 : decode cL_law 495 = .ok (.iconst 0, 1) := by decide +kernel
theorem dL_law_496 : decode cL_law 496 = .ok (.ireturn, 1) := by decide +kernel
theorem dL_law_497 : decode cL_law 497 = .ok (.aload_n 1, 1) := by decide +kernel
theorem dL_law_498 : decode cL_law 498 = .ok (.invokevirtual 109, 3) := by decide +kernel
theorem dL_law_501 : decode cL_law 501 = .ok (.aload_n 2, 1) := by decide +kernel
theorem dL_law_502 : decode cL_law 502 = .ok (.invokevirtual 112, 3) := by decide +kernel
theorem dL_law_505 : decode cL_law 505 = .ok (.if_icmp .eq 836, 3) := by decide +kernel
theorem dL_law_508 : decode cL_law 508 = .ok (.iconst 0, 1) := by decide +kernel
theorem dL_law_509 : decode cL_law 509 = .ok (.ireturn, 1) := by decide +kernel
theorem dL_law_510 : decode cL_law 510 = .ok (.aload_n 1, 1) := by decide +kernel
theorem dL_law_511 : decode cL_law 511 = .ok (.aload_n 0, 1) := by decide +kernel
theorem dL_law_512 : decode cL_law 512 = .ok (.iload 4, 2) := by decide +kernel
theorem dL_law_514 : decode cL_law 514 = .ok (.iconst 1, 1) := by decide +kernel
theorem dL_law_515 : decode cL_law 515 = .ok (.iadd, 1) := by decide +kernel
theorem dL_law_516 : decode cL_law 516 = .ok (.iaload, 1) := by decide +kernel
theorem dL_law_517 : decode cL_law 517 = .ok (.aload_n 3, 1) := by decide +kernel
theorem dL_law_518 : decode cL_law 518 = .ok (.invokestatic 113, 3) := by decide +kernel
theorem dL_law_521 : decode cL_law 521 = .ok (.istore 5, 2) := by decide +kernel
theorem dL_law_523 : decode cL_law 523 = .ok (.aload_n 2, 1) := by decide +kernel
theorem dL_law_524 : decode cL_law 524 = .ok (.aload_n 0, 1) := by decide +kernel
theorem dL_law_525 : decode cL_law 525 = .ok (.iload 4, 2) := by decide +kernel
theorem dL_law_527 : decode cL_law 527 = .ok (.iconst 1, 1) := by decide +kernel
theorem dL_law_528 : decode cL_law 528 = .ok (.iadd, 1) := by decide +kernel
theorem dL_law_529 : decode cL_law 529 = .ok (.iaload, 1) := by decide +kernel
theorem dL_law_530 : decode cL_law 530 = .ok (.invokevirtual 115, 3) := by decide +kernel
theorem dL_law_533 : decode cL_law 533 = .ok (.istore 6, 2) := by decide +kernel
theorem dL_law_535 : decode cL_law 535 = .ok (.aload_n 2, 1) := by decide +kernel
theorem dL_law_536 : decode cL_law 536 = .ok (.invokevirtual 85, 3) := by decide +kernel
theorem dL_law_539 : decode cL_law 539 = .ok (.iload 5, 2) := by decide +kernel
theorem dL_law_541 : decode cL_law 541 = .ok (.if_icmp .eq 5, 3) := by decide +kernel
theorem dL_law_544 : decode cL_law 544 = .ok (.iconst 0, 1) := by decide +kernel
theorem dL_law_545 : decode cL_law 545 = .ok (.ireturn, 1) := by decide +kernel
theorem dL_law_546 : decode cL_law 546 = .ok (.iload 5, 2) := by decide +kernel
theorem dL_law_548 : decode cL_law 548 = .ok (.ifCond .ne 15, 3) := by decide +kernel
theorem dL_law_551 : decode cL_law 551 = .ok (.aload_n 3, 1) := by decide +kernel
theorem dL_law_552 : decode cL_law 552 = .ok (.iconst 0, 1) := by decide +kernel
theorem dL_law_553 : decode cL_law 553 = .ok (.laload, 1) := by decide +kernel
theorem dL_law_554 : decode cL_law 554 = .ok (.iload 6, 2) := by decide +kernel
theorem dL_law_556 : decode cL_law 556 = .ok (.i2l, 1) := by decide +kernel
theorem dL_law_557 : decode cL_law 557 = .ok (.lcmp, 1) := by decide +kernel
theorem dL_law_558 : decode cL_law 558 = .ok (.ifCond .eq 5, 3) := by decide +kernel
theorem dL_law_561 : decode cL_law 561 = .ok (.iconst 0, 1) := by decide +kernel
theorem dL_law_562 : decode cL_law 562 = .ok (.ireturn, 1) := by decide +kernel
theorem dL_law_563 : decode cL_law 563 = .ok (.goto 778, 3) := by decide +kernel
theorem dL_law_566 : decode cL_law 566 = .ok (.aload_n 1, 1) := by decide +kernel
theorem dL_law_567 : decode cL_law 567 = .ok (.aload_n 3, 1) := by decide +kernel
theorem dL_law_568 : decode cL_law 568 = .ok (.invokestatic 116, 3) := by decide +kernel
theorem dL_law_571 : decode cL_law 571 = .ok (.istore 5, 2) := by decide +kernel
theorem dL_law_573 : decode cL_law 573 = .ok (.aload_n 2, 1) := by decide +kernel
theorem dL_law_574 : decode cL_law 574 = .ok (.invokevirtual 118, 3) := by decide +kernel
theorem dL_law_577 : decode cL_law 577 = .ok (.istore 6, 2) := by decide +kernel
theorem dL_law_579 : decode cL_law 579 = .ok (.aload_n 2, 1) := by decide +kernel
theorem dL_law_580 : decode cL_law 580 = .ok (.invokevirtual 85, 3) := by decide +kernel
theorem dL_law_583 : decode cL_law 583 = .ok (.iload 5, 2) := by decide +kernel
theorem dL_law_585 : decode cL_law 585 = .ok (.if_icmp .eq 5, 3) := by decide +kernel
theorem dL_law_588 : decode cL_law 588 = .ok (.iconst 0, 1) := by decide +kernel
theorem dL_law_589 : decode cL_law 589 = .ok (.ireturn, 1) := by decide +kernel
theorem dL_law_590 : decode cL_law 590 = .ok (.iload 5, 2) := by decide +kernel
theorem dL_law_592 : decode cL_law 592 = .ok (.ifCond .ne 15, 3) := by decide +kernel
theorem dL_law_595 : decode cL_law 595 = .ok (.aload_n 3, 1) := by decide +kernel
theorem dL_law_596 : decode cL_law 596 = .ok (.iconst 0, 1) := by decide +kernel
theorem dL_law_597 : decode cL_law 597 = .ok (.laload, 1) := by decide +kernel
theorem dL_law_598 : decode cL_law 598 = .ok (.iload 6, 2) := by decide +kernel
theorem dL_law_600 : decode cL_law 600 = .ok (.i2l, 1) := by decide +kernel
theorem dL_law_601 : decode cL_law 601 = .ok (.lcmp, 1) := by decide +kernel
theorem dL_law_602 : decode cL_law 602 = .ok (.ifCond .eq 5, 3) := by decide +kernel
theorem dL_law_605 : decode cL_law 605 = .ok (.iconst 0, 1) := by decide +kernel
theorem dL_law_606 : decode cL_law 606 = .ok (.ireturn, 1) := by decide +kernel
theorem dL_law_607 : decode cL_law 607 = .ok (.goto 734, 3) := by decide +kernel
theorem dL_law_610 : decode cL_law 610 = .ok (.aload_n 1, 1) := by decide +kernel
theorem dL_law_611 : decode cL_law 611 = .ok (.aload_n 0, 1) := by decide +kernel
theorem dL_law_612 : decode cL_law 612 = .ok (.iload 4, 2) := by decide +kernel
theorem dL_law_614 : decode cL_law 614 = .ok (.iconst 1, 1) := by decide +kernel
theorem dL_law_615 : decode cL_law 615 = .ok (.iadd, 1) := by decide +kernel
theorem dL_law_616 : decode cL_law 616 = .ok (.iaload, 1) := by decide +kernel
theorem dL_law_617 : decode cL_law 617 = .ok (.aload_n 3, 1) := by decide +kernel
theorem dL_law_618 : decode cL_law 618 = .ok (.invokestatic 119, 3) := by decide +kernel
theorem dL_law_621 : decode cL_law 621 = .ok (.istore 5, 2) := by decide +kernel
theorem dL_law_623 : decode cL_law 623 = .ok (.aload_n 2, 1) := by decide +kernel
theorem dL_law_624 : decode cL_law 624 = .ok (.aload_n 0, 1) := by decide +kernel
theorem dL_law_625 : decode cL_law 625 = .ok (.iload 4, 2) := by decide +kernel
theorem dL_law_627 : decode cL_law 627 = .ok (.iconst 1, 1) := by decide +kernel
theorem dL_law_628 : decode cL_law 628 = .ok (.iadd, 1) := by decide +kernel
theorem dL_law_629 : decode cL_law 629 = .ok (.iaload, 1) := by decide +kernel
theorem dL_law_630 : decode cL_law 630 = .ok (.invokevirtual 121, 3) := by decide +kernel
theorem dL_law_633 : decode cL_law 633 = .ok (.istore 6, 2) := by decide +kernel
theorem dL_law_635 : decode cL_law 635 = .ok (.aload_n 2, 1) := by decide +kernel
theorem dL_law_636 : decode cL_law 636 = .ok (.invokevirtual 85, 3) := by decide +kernel
theorem dL_law_639 : decode cL_law 639 = .ok (.iload 5, 2) := by decide +kernel
theorem dL_law_641 : decode cL_law 641 = .ok (.if_icmp .eq 5, 3) := by decide +kernel
theorem dL_law_644 : decode cL_law 644 = .ok (.iconst 0, 1) := by decide +kernel
theorem dL_law_645 : decode cL_law 645 = .ok (.ireturn, 1) := by decide +kernel
theorem dL_law_646 : decode cL_law 646 = .ok (.iload 5, 2) := by decide +kernel
theorem dL_law_648 : decode cL_law 648 = .ok (.ifCond .ne 15, 3) := by decide +kernel
theorem dL_law_651 : decode cL_law 651 = .ok (.aload_n 3, 1) := by decide +kernel
theorem dL_law_652 : decode cL_law 652 = .ok (.iconst 0, 1) := by decide +kernel
theorem dL_law_653 : decode cL_law 653 = .ok (.laload, 1) := by decide +kernel
theorem dL_law_654 : decode cL_law 654 = .ok (.iload 6, 2) := by decide +kernel
theorem dL_law_656 : decode cL_law 656 = .ok (.i2l, 1) := by decide +kernel
theorem dL_law_657 : decode cL_law 657 = .ok (.lcmp, 1) := by decide +kernel
theorem dL_law_658 : decode cL_law 658 = .ok (.ifCond .eq 5, 3) := by decide +kernel
theorem dL_law_661 : decode cL_law 661 = .ok (.iconst 0, 1) := by decide +kernel
theorem dL_law_662 : decode cL_law 662 = .ok (.ireturn, 1) := by decide +kernel
theorem dL_law_663 : decode cL_law 663 = .ok (.goto 678, 3) := by decide +kernel
theorem dL_law_666 : decode cL_law 666 = .ok (.aload_n 1, 1) := by decide +kernel
theorem dL_law_667 : decode cL_law 667 = .ok (.aload_n 0, 1) := by decide +kernel
theorem dL_law_668 : decode cL_law 668 = .ok (.iload 4, 2) := by decide +kernel
theorem dL_law_670 : decode cL_law 670 = .ok (.iconst 1, 1) := by decide +kernel
theorem dL_law_671 : decode cL_law 671 = .ok (.iadd, 1) := by decide +kernel
theorem dL_law_672 : decode cL_law 672 = .ok (.iaload, 1) := by decide +kernel
theorem dL_law_673 : decode cL_law 673 = .ok (.aload_n 3, 1) := by decide +kernel
theorem dL_law_674 : decode cL_law 674 = .ok (.invokestatic 122, 3) := by decide +kernel
theorem dL_law_677 : decode cL_law 677 = .ok (.istore 5, 2) := by decide +kernel
theorem dL_law_679 : decode cL_law 679 = .ok (.aload_n 2, 1) := by decide +kernel
theorem dL_law_680 : decode cL_law 680 = .ok (.aload_n 0, 1) := by decide +kernel
theorem dL_law_681 : decode cL_law 681 = .ok (.iload 4, 2) := by decide +kernel
theorem dL_law_683 : decode cL_law 683 = .ok (.iconst 1, 1) := by decide +kernel
theorem dL_law_684 : decode cL_law 684 = .ok (.iadd, 1) := by decide +kernel
theorem dL_law_685 : decode cL_law 685 = .ok (.iaload, 1) := by decide +kernel
theorem dL_law_686 : decode cL_law 686 = .ok (.invokevirtual 124, 3) := by decide +kernel
theorem dL_law_689 : decode cL_law 689 = .ok (.istore 6, 2) := by decide +kernel
theorem dL_law_691 : decode cL_law 691 = .ok (.aload_n 2, 1) := by decide +kernel
theorem dL_law_692 : decode cL_law 692 = .ok (.invokevirtual 85, 3) := by decide +kernel
theorem dL_law_695 : decode cL_law 695 = .ok (.iload 5, 2) := by decide +kernel
theorem dL_law_697 : decode cL_law 697 = .ok (.if_icmp .eq 5, 3) := by decide +kernel
theorem dL_law_700 : decode cL_law 700 = .ok (.iconst 0, 1) := by decide +kernel
theorem dL_law_701 : decode cL_law 701 = .ok (.ireturn, 1) := by decide +kernel
theorem dL_law_702 : decode cL_law 702 = .ok (.iload 5, 2) := by decide +kernel
theorem dL_law_704 : decode cL_law 704 = .ok (.ifCond .ne 15, 3) := by decide +kernel
theorem dL_law_707 : decode cL_law 707 = .ok (.aload_n 3, 1) := by decide +kernel
theorem dL_law_708 : decode cL_law 708 = .ok (.iconst 0, 1) := by decide +kernel
theorem dL_law_709 : decode cL_law 709 = .ok (.laload, 1) := by decide +kernel
theorem dL_law_710 : decode cL_law 710 = .ok (.iload 6, 2) := by decide +kernel
theorem dL_law_712 : decode cL_law 712 = .ok (.i2l, 1) := by decide +kernel
theorem dL_law_713 : decode cL_law 713 = .ok (.lcmp, 1) := by decide +kernel
theorem dL_law_714 : decode cL_law 714 = .ok (.ifCond .eq 5, 3) := by decide +kernel
theorem dL_law_717 : decode cL_law 717 = .ok (.iconst 0, 1) := by decide +kernel
theorem dL_law_718 : decode cL_law 718 = .ok (.ireturn, 1) := by decide +kernel
theorem dL_law_719 : decode cL_law 719 = .ok (.goto 622, 3) := by decide +kernel
theorem dL_law_722 : decode cL_law 722 = .ok (.aload_n 1, 1) := by decide +kernel
theorem dL_law_723 : decode cL_law 723 = .ok (.aload_n 0, 1) := by decide +kernel
theorem dL_law_724 : decode cL_law 724 = .ok (.iload 4, 2) := by decide +kernel
theorem dL_law_726 : decode cL_law 726 = .ok (.iconst 1, 1) := by decide +kernel
theorem dL_law_727 : decode cL_law 727 = .ok (.iadd, 1) := by decide +kernel
theorem dL_law_728 : decode cL_law 728 = .ok (.iaload, 1) := by decide +kernel
theorem dL_law_729 : decode cL_law 729 = .ok (.aload_n 0, 1) := by decide +kernel
theorem dL_law_730 : decode cL_law 730 = .ok (.iload 4, 2) := by decide +kernel
theorem dL_law_732 : decode cL_law 732 = .ok (.iconst 2, 1) := by decide +kernel
theorem dL_law_733 : decode cL_law 733 = .ok (.iadd, 1) := by decide +kernel
theorem dL_law_734 : decode cL_law 734 = .ok (.iaload, 1) := by decide +kernel
theorem dL_law_735 : decode cL_law 735 = .ok (.aload_n 3, 1) := by decide +kernel
theorem dL_law_736 : decode cL_law 736 = .ok (.invokestatic 125, 3) := by decide +kernel
theorem dL_law_739 : decode cL_law 739 = .ok (.istore 5, 2) := by decide +kernel
theorem dL_law_741 : decode cL_law 741 = .ok (.aload_n 2, 1) := by decide +kernel
theorem dL_law_742 : decode cL_law 742 = .ok (.aload_n 0, 1) := by decide +kernel
theorem dL_law_743 : decode cL_law 743 = .ok (.iload 4, 2) := by decide +kernel
theorem dL_law_745 : decode cL_law 745 = .ok (.iconst 1, 1) := by decide +kernel
theorem dL_law_746 : decode cL_law 746 = .ok (.iadd, 1) := by decide +kernel
theorem dL_law_747 : decode cL_law 747 = .ok (.iaload, 1) := by decide +kernel
theorem dL_law_748 : decode cL_law 748 = .ok (.aload_n 0, 1) := by decide +kernel
theorem dL_law_749 : decode cL_law 749 = .ok (.iload 4, 2) := by decide +kernel
theorem dL_law_751 : decode cL_law 751 = .ok (.iconst 2, 1) := by decide +kernel
theorem dL_law_752 : decode cL_law 752 = .ok (.iadd, 1) := by decide +kernel
theorem dL_law_753 : decode cL_law 753 = .ok (.iaload, 1) := by decide +kernel
theorem dL_law_754 : decode cL_law 754 = .ok (.invokevirtual 127, 3) := by decide +kernel
theorem dL_law_757 : decode cL_law 757 = .ok (.istore 6, 2) := by decide +kernel
theorem dL_law_759 : decode cL_law 759 = .ok (.aload_n 2, 1) := by decide +kernel
theorem dL_law_760 : decode cL_law 760 = .ok (.invokevirtual 85, 3) := by decide +kernel
theorem dL_law_763 : decode cL_law 763 = .ok (.iload 5, 2) := by decide +kernel
theorem dL_law_765 : decode cL_law 765 = .ok (.if_icmp .eq 5, 3) := by decide +kernel
theorem dL_law_768 : decode cL_law 768 = .ok (.iconst 0, 1) := by decide +kernel
theorem dL_law_769 : decode cL_law 769 = .ok (.ireturn, 1) := by decide +kernel
theorem dL_law_770 : decode cL_law 770 = .ok (.iload 5, 2) := by decide +kernel
theorem dL_law_772 : decode cL_law 772 = .ok (.ifCond .ne 15, 3) := by decide +kernel
theorem dL_law_775 : decode cL_law 775 = .ok (.aload_n 3, 1) := by decide +kernel
theorem dL_law_776 : decode cL_law 776 = .ok (.iconst 0, 1) := by decide +kernel
theorem dL_law_777 : decode cL_law 777 = .ok (.laload, 1) := by decide +kernel
theorem dL_law_778 : decode cL_law 778 = .ok (.iload 6, 2) := by decide +kernel
theorem dL_law_780 : decode cL_law 780 = .ok (.i2l, 1) := by decide +kernel
theorem dL_law_781 : decode cL_law 781 = .ok (.lcmp, 1) := by decide +kernel
theorem dL_law_782 : decode cL_law 782 = .ok (.ifCond .eq 5, 3) := by decide +kernel
theorem dL_law_785 : decode cL_law 785 = .ok (.iconst 0, 1) := by decide +kernel
theorem dL_law_786 : decode cL_law 786 = .ok (.ireturn, 1) := by decide +kernel
theorem dL_law_787 : decode cL_law 787 = .ok (.goto 554, 3) := by decide +kernel
theorem dL_law_790 : decode cL_law 790 = .ok (.aload_n 1, 1) := by decide +kernel
theorem dL_law_791 : decode cL_law 791 = .ok (.aload_n 0, 1) := by decide +kernel
theorem dL_law_792 : decode cL_law 792 = .ok (.iload 4, 2) := by decide +kernel
theorem dL_law_794 : decode cL_law 794 = .ok (.iconst 1, 1) := by decide +kernel
theorem dL_law_795 : decode cL_law 795 = .ok (.iadd, 1) := by decide +kernel
theorem dL_law_796 : decode cL_law 796 = .ok (.iaload, 1) := by decide +kernel
theorem dL_law_797 : decode cL_law 797 = .ok (.aload_n 0, 1) := by decide +kernel
theorem dL_law_798 : decode cL_law 798 = .ok (.iload 4, 2) := by decide +kernel
theorem dL_law_800 : decode cL_law 800 = .ok (.iconst 2, 1) := by decide +kernel
theorem dL_law_801 : decode cL_law 801 = .ok (.iadd, 1) := by decide +kernel
theorem dL_law_802 : decode cL_law 802 = .ok (.iaload, 1) := by decide +kernel
theorem dL_law_803 : decode cL_law 803 = .ok (.aload_n 3, 1) := by decide +kernel
theorem dL_law_804 : decode cL_law 804 = .ok (.invokestatic 128, 3) := by decide +kernel
theorem dL_law_807 : decode cL_law 807 = .ok (.istore 5, 2) := by decide +kernel
theorem dL_law_809 : decode cL_law 809 = .ok (.aload_n 2, 1) := by decide +kernel
theorem dL_law_810 : decode cL_law 810 = .ok (.aload_n 0, 1) := by decide +kernel
theorem dL_law_811 : decode cL_law 811 = .ok (.iload 4, 2) := by decide +kernel
theorem dL_law_813 : decode cL_law 813 = .ok (.iconst 1, 1) := by decide +kernel
theorem dL_law_814 : decode cL_law 814 = .ok (.iadd, 1) := by decide +kernel
theorem dL_law_815 : decode cL_law 815 = .ok (.iaload, 1) := by decide +kernel
theorem dL_law_816 : decode cL_law 816 = .ok (.aload_n 0, 1) := by decide +kernel
theorem dL_law_817 : decode cL_law 817 = .ok (.iload 4, 2) := by decide +kernel
theorem dL_law_819 : decode cL_law 819 = .ok (.iconst 2, 1) := by decide +kernel
theorem dL_law_820 : decode cL_law 820 = .ok (.iadd, 1) := by decide +kernel
theorem dL_law_821 : decode cL_law 821 = .ok (.iaload, 1) := by decide +kernel
theorem dL_law_822 : decode cL_law 822 = .ok (.invokevirtual 130, 3) := by decide +kernel
theorem dL_law_825 : decode cL_law 825 = .ok (.istore 6, 2) := by decide +kernel
theorem dL_law_827 : decode cL_law 827 = .ok (.aload_n 2, 1) := by decide +kernel
theorem dL_law_828 : decode cL_law 828 = .ok (.invokevirtual 85, 3) := by decide +kernel
theorem dL_law_831 : decode cL_law 831 = .ok (.iload 5, 2) := by decide +kernel
theorem dL_law_833 : decode cL_law 833 = .ok (.if_icmp .eq 5, 3) := by decide +kernel
theorem dL_law_836 : decode cL_law 836 = .ok (.iconst 0, 1) := by decide +kernel
theorem dL_law_837 : decode cL_law 837 = .ok (.ireturn, 1) := by decide +kernel
theorem dL_law_838 : decode cL_law 838 = .ok (.iload 5, 2) := by decide +kernel
theorem dL_law_840 : decode cL_law 840 = .ok (.ifCond .ne 15, 3) := by decide +kernel
theorem dL_law_843 : decode cL_law 843 = .ok (.aload_n 3, 1) := by decide +kernel
theorem dL_law_844 : decode cL_law 844 = .ok (.iconst 0, 1) := by decide +kernel
theorem dL_law_845 : decode cL_law 845 = .ok (.laload, 1) := by decide +kernel
theorem dL_law_846 : decode cL_law 846 = .ok (.iload 6, 2) := by decide +kernel
theorem dL_law_848 : decode cL_law 848 = .ok (.i2l, 1) := by decide +kernel
theorem dL_law_849 : decode cL_law 849 = .ok (.lcmp, 1) := by decide +kernel
theorem dL_law_850 : decode cL_law 850 = .ok (.ifCond .eq 5, 3) := by decide +kernel
theorem dL_law_853 : decode cL_law 853 = .ok (.iconst 0, 1) := by decide +kernel
theorem dL_law_854 : decode cL_law 854 = .ok (.ireturn, 1) := by decide +kernel
theorem dL_law_855 : decode cL_law 855 = .ok (.goto 486, 3) := by decide +kernel
theorem dL_law_858 : decode cL_law 858 = .ok (.aload_n 1, 1) := by decide +kernel
theorem dL_law_859 : decode cL_law 859 = .ok (.invokevirtual 131, 3) := by decide +kernel
theorem dL_law_862 : decode cL_law 862 = .ok (.aload_n 2, 1) := by decide +kernel
theorem dL_law_863 : decode cL_law 863 = .ok (.invokevirtual 134, 3) := by decide +kernel
theorem dL_law_866 : decode cL_law 866 = .ok (.if_icmp .eq 475, 3) := by decide +kernel
theorem dL_law_869 : decode cL_law 869 = .ok (.iconst 0, 1) := by decide +kernel
theorem dL_law_870 : decode cL_law 870 = .ok (.ireturn, 1) := by decide +kernel
theorem dL_law_871 : decode cL_law 871 = .ok (.aload_n 1, 1) := by decide +kernel
theorem dL_law_872 : decode cL_law 872 = .ok (.invokevirtual 135, 3) := by decide +kernel
theorem dL_law_875 : decode cL_law 875 = .ok (.aload_n 2, 1) := by decide +kernel
theorem dL_law_876 : decode cL_law 876 = .ok (.invokevirtual 138, 3) := by decide +kernel
theorem dL_law_879 : decode cL_law 879 = .ok (.if_icmp .eq 462, 3) := by decide +kernel
theorem dL_law_882 : decode cL_law 882 = .ok (.iconst 0, 1) := by decide +kernel
theorem dL_law_883 : decode cL_law 883 = .ok (.ireturn, 1) := by decide +kernel
theorem dL_law_884 : decode cL_law 884 = .ok (.aload_n 1, 1) := by decide +kernel
theorem dL_law_885 : decode cL_law 885 = .ok (.aload_n 0, 1) := by decide +kernel
theorem dL_law_886 : decode cL_law 886 = .ok (.iload 4, 2) := by decide +kernel
theorem dL_law_888 : decode cL_law 888 = .ok (.iconst 1, 1) := by decide +kernel
theorem dL_law_889 : decode cL_law 889 = .ok (.iadd, 1) := by decide +kernel
theorem dL_law_890 : decode cL_law 890 = .ok (.iaload, 1) := by decide +kernel
theorem dL_law_891 : decode cL_law 891 = .ok (.aload_n 3, 1) := by decide +kernel
theorem dL_law_892 : decode cL_law 892 = .ok (.invokestatic 139, 3) := by decide +kernel
theorem dL_law_895 : decode cL_law 895 = .ok (.istore 5, 2) := by decide +kernel
theorem dL_law_897 : decode cL_law 897 = .ok (.aload_n 2, 1) := by decide +kernel
theorem dL_law_898 : decode cL_law 898 = .ok (.aload_n 0, 1) := by decide +kernel
theorem dL_law_899 : decode cL_law 899 = .ok (.iload 4, 2) := by decide +kernel
theorem dL_law_901 : decode cL_law 901 = .ok (.iconst 1, 1) := by decide +kernel
theorem dL_law_902 : decode cL_law 902 = .ok (.iadd, 1) := by decide +kernel
theorem dL_law_903 : decode cL_law 903 = .ok (.iaload, 1) := by decide +kernel
theorem dL_law_904 : decode cL_law 904 = .ok (.invokevirtual 141, 3) := by decide +kernel
theorem dL_law_907 : decode cL_law 907 = .ok (.istore 6, 2) := by decide +kernel
theorem dL_law_909 : decode cL_law 909 = .ok (.aload_n 2, 1) := by decide +kernel
theorem dL_law_910 : decode cL_law 910 = .ok (.invokevirtual 85, 3) := by decide +kernel
theorem dL_law_913 : decode cL_law 913 = .ok (.iload 5, 2) := by decide +kernel
theorem dL_law_915 : decode cL_law 915 = .ok (.if_icmp .eq 5, 3) := by decide +kernel
theorem dL_law_918 : decode cL_law 918 = .ok (.iconst 0, 1) := by decide +kernel
theorem dL_law_919 : decode cL_law 919 = .ok (.ireturn, 1) := by decide +kernel
theorem dL_law_920 : decode cL_law 920 = .ok (.iload 5, 2) := by decide +kernel
theorem dL_law_922 : decode cL_law 922 = .ok (.ifCond .ne 15, 3) := by decide +kernel
theorem dL_law_925 : decode cL_law 925 = .ok (.aload_n 3, 1) := by decide +kernel
theorem dL_law_926 : decode cL_law 926 = .ok (.iconst 0, 1) := by decide +kernel
theorem dL_law_927 : decode cL_law 927 = .ok (.laload, 1) := by decide +kernel
theorem dL_law_928 : decode cL_law 928 = .ok (.iload 6, 2) := by decide +kernel
theorem dL_law_930 : decode cL_law 930 = .ok (.i2l, 1) := by decide +kernel
theorem dL_law_931 : decode cL_law 931 = .ok (.lcmp, 1) := by decide +kernel
theorem dL_law_932 : decode cL_law 932 = .ok (.ifCond .eq 5, 3) := by decide +kernel
theorem dL_law_935 : decode cL_law 935 = .ok (.iconst 0, 1) := by decide +kernel
theorem dL_law_936 : decode cL_law 936 = .ok (.ireturn, 1) := by decide +kernel
theorem dL_law_937 : decode cL_law 937 = .ok (.goto 404, 3) := by decide +kernel
theorem dL_law_940 : decode cL_law 940 = .ok (.aload_n 1, 1) := by decide +kernel
theorem dL_law_941 : decode cL_law 941 = .ok (.aload_n 0, 1) := by decide +kernel
theorem dL_law_942 : decode cL_law 942 = .ok (.iload 4, 2) := by decide +kernel
theorem dL_law_944 : decode cL_law 944 = .ok (.iconst 1, 1) := by decide +kernel
theorem dL_law_945 : decode cL_law 945 = .ok (.iadd, 1) := by decide +kernel
theorem dL_law_946 : decode cL_law 946 = .ok (.iaload, 1) := by decide +kernel
theorem dL_law_947 : decode cL_law 947 = .ok (.aload_n 3, 1) := by decide +kernel
theorem dL_law_948 : decode cL_law 948 = .ok (.invokestatic 142, 3) := by decide +kernel
theorem dL_law_951 : decode cL_law 951 = .ok (.istore 5, 2) := by decide +kernel
theorem dL_law_953 : decode cL_law 953 = .ok (.aload_n 2, 1) := by decide +kernel
theorem dL_law_954 : decode cL_law 954 = .ok (.aload_n 0, 1) := by decide +kernel
theorem dL_law_955 : decode cL_law 955 = .ok (.iload 4, 2) := by decide +kernel
theorem dL_law_957 : decode cL_law 957 = .ok (.iconst 1, 1) := by decide +kernel
theorem dL_law_958 : decode cL_law 958 = .ok (.iadd, 1) := by decide +kernel
theorem dL_law_959 : decode cL_law 959 = .ok (.iaload, 1) := by decide +kernel
theorem dL_law_960 : decode cL_law 960 = .ok (.invokevirtual 144, 3) := by decide +kernel
theorem dL_law_963 : decode cL_law 963 = .ok (.istore 6, 2) := by decide +kernel
theorem dL_law_965 : decode cL_law 965 = .ok (.aload_n 2, 1) := by decide +kernel
theorem dL_law_966 : decode cL_law 966 = .ok (.invokevirtual 85, 3) := by decide +kernel
theorem dL_law_969 : decode cL_law 969 = .ok (.iload 5, 2) := by decide +kernel
theorem dL_law_971 : decode cL_law 971 = .ok (.if_icmp .eq 5, 3) := by decide +kernel
theorem dL_law_974 : decode cL_law 974 = .ok (.iconst 0, 1) := by decide +kernel
theorem dL_law_975 : decode cL_law 975 = .ok (.ireturn, 1) := by decide +kernel
theorem dL_law_976 : decode cL_law 976 = .ok (.iload 5, 2) := by decide +kernel
theorem dL_law_978 : decode cL_law 978 = .ok (.ifCond .ne 15, 3) := by decide +kernel
theorem dL_law_981 : decode cL_law 981 = .ok (.aload_n 3, 1) := by decide +kernel
theorem dL_law_982 : decode cL_law 982 = .ok (.iconst 0, 1) := by decide +kernel
theorem dL_law_983 : decode cL_law 983 = .ok (.laload, 1) := by decide +kernel
theorem dL_law_984 : decode cL_law 984 = .ok (.iload 6, 2) := by decide +kernel
theorem dL_law_986 : decode cL_law 986 = .ok (.i2l, 1) := by decide +kernel
theorem dL_law_987 : decode cL_law 987 = .ok (.lcmp, 1) := by decide +kernel
theorem dL_law_988 : decode cL_law 988 = .ok (.ifCond .eq 5, 3) := by decide +kernel
theorem dL_law_991 : decode cL_law 991 = .ok (.iconst 0, 1) := by decide +kernel
theorem dL_law_992 : decode cL_law 992 = .ok (.ireturn, 1) := by decide +kernel
theorem dL_law_993 : decode cL_law 993 = .ok (.goto 348, 3) := by decide +kernel
theorem dL_law_996 : decode cL_law 996 = .ok (.aload_n 1, 1) := by decide +kernel
theorem dL_law_997 : decode cL_law 997 = .ok (.aload_n 0, 1) := by decide +kernel
theorem dL_law_998 : decode cL_law 998 = .ok (.iload 4, 2) := by decide +kernel
theorem dL_law_1000 : decode cL_law 1000 = .ok (.iconst 1, 1) := by decide +kernel
theorem dL_law_1001 : decode cL_law 1001 = .ok (.iadd, 1) := by decide +kernel
theorem dL_law_1002 : decode cL_law 1002 = .ok (.iaload, 1) := by decide +kernel
theorem dL_law_1003 : decode cL_law 1003 = .ok (.aload_n 3, 1) := by decide +kernel
theorem dL_law_1004 : decode cL_law 1004 = .ok (.invokestatic 145, 3) := by decide +kernel
theorem dL_law_1007 : decode cL_law 1007 = .ok (.istore 5, 2) := by decide +kernel
theorem dL_law_1009 : decode cL_law 1009 = .ok (.aload_n 2, 1) := by decide +kernel
theorem dL_law_1010 : decode cL_law 1010 = .ok (.aload_n 0, 1) := by decide +kernel
theorem dL_law_1011 : decode cL_law 1011 = .ok (.iload 4, 2) := by decide +kernel
theorem dL_law_1013 : decode cL_law 1013 = .ok (.iconst 1, 1) := by decide +kernel
theorem dL_law_1014 : decode cL_law 1014 = .ok (.iadd, 1) := by decide +kernel
theorem dL_law_1015 : decode cL_law 1015 = .ok (.iaload, 1) := by decide +kernel
theorem dL_law_1016 : decode cL_law 1016 = .ok (.invokevirtual 147, 3) := by decide +kernel
theorem dL_law_1019 : decode cL_law 1019 = .ok (.istore 6, 2) := by decide +kernel
theorem dL_law_1021 : decode cL_law 1021 = .ok (.aload_n 2, 1) := by decide +kernel
theorem dL_law_1022 : decode cL_law 1022 = .ok (.invokevirtual 85, 3) := by decide +kernel
theorem dL_law_1025 : decode cL_law 1025 = .ok (.iload 5, 2) := by decide +kernel
theorem dL_law_1027 : decode cL_law 1027 = .ok (.if_icmp .eq 5, 3) := by decide +kernel
theorem dL_law_1030 : decode cL_law 1030 = .ok (.iconst 0, 1) := by decide +kernel
theorem dL_law_1031 : decode cL_law 1031 = .ok (.ireturn, 1) := by decide +kernel
theorem dL_law_1032 : decode cL_law 1032 = .ok (.iload 5, 2) := by decide +kernel
theorem dL_law_1034 : decode cL_law 1034 = .ok (.ifCond .ne 15, 3) := by decide +kernel
theorem dL_law_1037 : decode cL_law 1037 = .ok (.aload_n 3, 1) := by decide +kernel
theorem dL_law_1038 : decode cL_law 1038 = .ok (.iconst 0, 1) := by decide +kernel
theorem dL_law_1039 : decode cL_law 1039 = .ok (.laload, 1) := by decide +kernel
theorem dL_law_1040 : decode cL_law 1040 = .ok (.iload 6, 2) := by decide +kernel
theorem dL_law_1042 : decode cL_law 1042 = .ok (.i2l, 1) := by decide +kernel
theorem dL_law_1043 : decode cL_law 1043 = .ok (.lcmp, 1) := by decide +kernel
theorem dL_law_1044 : decode cL_law 1044 = .ok (.ifCond .eq 5, 3) := by decide +kernel
theorem dL_law_1047 : decode cL_law 1047 = .ok (.iconst 0, 1) := by decide +kernel
theorem dL_law_1048 : decode cL_law 1048 = .ok (.ireturn, 1) := by decide +kernel
theorem dL_law_1049 : decode cL_law 1049 = .ok (.goto 292, 3) := by decide +kernel
theorem dL_law_1052 : decode cL_law 1052 = .ok (.aload_n 1, 1) := by decide +kernel
theorem dL_law_1053 : decode cL_law 1053 = .ok (.aload_n 0, 1) := by decide +kernel
theorem dL_law_1054 : decode cL_law 1054 = .ok (.iload 4, 2) := by decide +kernel
theorem dL_law_1056 : decode cL_law 1056 = .ok (.iconst 1, 1) := by decide +kernel
theorem dL_law_1057 : decode cL_law 1057 = .ok (.iadd, 1) := by decide +kernel
theorem dL_law_1058 : decode cL_law 1058 = .ok (.iaload, 1) := by decide +kernel
theorem dL_law_1059 : decode cL_law 1059 = .ok (.aload_n 3, 1) := by decide +kernel
theorem dL_law_1060 : decode cL_law 1060 = .ok (.invokestatic 148, 3) := by decide +kernel
theorem dL_law_1063 : decode cL_law 1063 = .ok (.istore 5, 2) := by decide +kernel
theorem dL_law_1065 : decode cL_law 1065 = .ok (.aload_n 2, 1) := by decide +kernel
theorem dL_law_1066 : decode cL_law 1066 = .ok (.aload_n 0, 1) := by decide +kernel
theorem dL_law_1067 : decode cL_law 1067 = .ok (.iload 4, 2) := by decide +kernel
theorem dL_law_1069 : decode cL_law 1069 = .ok (.iconst 1, 1) := by decide +kernel
theorem dL_law_1070 : decode cL_law 1070 = .ok (.iadd, 1) := by decide +kernel
theorem dL_law_1071 : decode cL_law 1071 = .ok (.iaload, 1) := by decide +kernel
theorem dL_law_1072 : decode cL_law 1072 = .ok (.invokevirtual 150, 3) := by decide +kernel
theorem dL_law_1075 : decode cL_law 1075 = .ok (.istore 6, 2) := by decide +kernel
theorem dL_law_1077 : decode cL_law 1077 = .ok (.aload_n 2, 1) := by decide +kernel
theorem dL_law_1078 : decode cL_law 1078 = .ok (.invokevirtual 85, 3) := by decide +kernel
theorem dL_law_1081 : decode cL_law 1081 = .ok (.iload 5, 2) := by decide +kernel
theorem dL_law_1083 : decode cL_law 1083 = .ok (.if_icmp .eq 5, 3) := by decide +kernel
theorem dL_law_1086 : decode cL_law 1086 = .ok (.iconst 0, 1) := by decide +kernel
theorem dL_law_1087 : decode cL_law 1087 = .ok (.ireturn, 1) := by decide +kernel
theorem dL_law_1088 : decode cL_law 1088 = .ok (.iload 5, 2) := by decide +kernel
theorem dL_law_1090 : decode cL_law 1090 = .ok (.ifCond .ne 15, 3) := by decide +kernel
theorem dL_law_1093 : decode cL_law 1093 = .ok (.aload_n 3, 1) := by decide +kernel
theorem dL_law_1094 : decode cL_law 1094 = .ok (.iconst 0, 1) := by decide +kernel
theorem dL_law_1095 : decode cL_law 1095 = .ok (.laload, 1) := by decide +kernel
theorem dL_law_1096 : decode cL_law 1096 = .ok (.iload 6, 2) := by decide +kernel
theorem dL_law_1098 : decode cL_law 1098 = .ok (.i2l, 1) := by decide +kernel
theorem dL_law_1099 : decode cL_law 1099 = .ok (.lcmp, 1) := by decide +kernel
theorem dL_law_1100 : decode cL_law 1100 = .ok (.ifCond .eq 5, 3) := by decide +kernel
theorem dL_law_1103 : decode cL_law 1103 = .ok (.iconst 0, 1) := by decide +kernel
theorem dL_law_1104 : decode cL_law 1104 = .ok (.ireturn, 1) := by decide +kernel
theorem dL_law_1105 : decode cL_law 1105 = .ok (.goto 236, 3) := by decide +kernel
theorem dL_law_1108 : decode cL_law 1108 = .ok (.aload_n 1, 1) := by decide +kernel
theorem dL_law_1109 : decode cL_law 1109 = .ok (.aload_n 0, 1) := by decide +kernel
theorem dL_law_1110 : decode cL_law 1110 = .ok (.iload 4, 2) := by decide +kernel
theorem dL_law_1112 : decode cL_law 1112 = .ok (.iconst 1, 1) := by decide +kernel
theorem dL_law_1113 : decode cL_law 1113 = .ok (.iadd, 1) := by decide +kernel
theorem dL_law_1114 : decode cL_law 1114 = .ok (.iaload, 1) := by decide +kernel
theorem dL_law_1115 : decode cL_law 1115 = .ok (.aload_n 0, 1) := by decide +kernel
theorem dL_law_1116 : decode cL_law 1116 = .ok (.iload 4, 2) := by decide +kernel
theorem dL_law_1118 : decode cL_law 1118 = .ok (.iconst 2, 1) := by decide +kernel
theorem dL_law_1119 : decode cL_law 1119 = .ok (.iadd, 1) := by decide +kernel
theorem dL_law_1120 : decode cL_law 1120 = .ok (.iaload, 1) := by decide +kernel
theorem dL_law_1121 : decode cL_law 1121 = .ok (.aload_n 3, 1) := by decide +kernel
theorem dL_law_1122 : decode cL_law 1122 = .ok (.invokestatic 151, 3) := by decide +kernel
theorem dL_law_1125 : decode cL_law 1125 = .ok (.istore 5, 2) := by decide +kernel
theorem dL_law_1127 : decode cL_law 1127 = .ok (.aload_n 2, 1) := by decide +kernel
theorem dL_law_1128 : decode cL_law 1128 = .ok (.aload_n 0, 1) := by decide +kernel
theorem dL_law_1129 : decode cL_law 1129 = .ok (.iload 4, 2) := by decide +kernel
theorem dL_law_1131 : decode cL_law 1131 = .ok (.iconst 1, 1) := by decide +kernel
theorem dL_law_1132 : decode cL_law 1132 = .ok (.iadd, 1) := by decide +kernel
theorem dL_law_1133 : decode cL_law 1133 = .ok (.iaload, 1) := by decide +kernel
theorem dL_law_1134 : decode cL_law 1134 = .ok (.aload_n 0, 1) := by decide +kernel
theorem dL_law_1135 : decode cL_law 1135 = .ok (.iload 4, 2) := by decide +kernel
theorem dL_law_1137 : decode cL_law 1137 = .ok (.iconst 2, 1) := by decide +kernel
theorem dL_law_1138 : decode cL_law 1138 = .ok (.iadd, 1) := by decide +kernel
theorem dL_law_1139 : decode cL_law 1139 = .ok (.iaload, 1) := by decide +kernel
theorem dL_law_1140 : decode cL_law 1140 = .ok (.invokevirtual 153, 3) := by decide +kernel
theorem dL_law_1143 : decode cL_law 1143 = .ok (.istore 6, 2) := by decide +kernel
theorem dL_law_1145 : decode cL_law 1145 = .ok (.aload_n 2, 1) := by decide +kernel
theorem dL_law_1146 : decode cL_law 1146 = .ok (.invokevirtual 85, 3) := by decide +kernel
theorem dL_law_1149 : decode cL_law 1149 = .ok (.iload 5, 2) := by decide +kernel
theorem dL_law_1151 : decode cL_law 1151 = .ok (.if_icmp .eq 5, 3) := by decide +kernel
theorem dL_law_1154 : decode cL_law 1154 = .ok (.iconst 0, 1) := by decide +kernel
theorem dL_law_1155 : decode cL_law 1155 = .ok (.ireturn, 1) := by decide +kernel
theorem dL_law_1156 : decode cL_law 1156 = .ok (.iload 5, 2) := by decide +kernel
theorem dL_law_1158 : decode cL_law 1158 = .ok (.ifCond .ne 15, 3) := by decide +kernel
theorem dL_law_1161 : decode cL_law 1161 = .ok (.aload_n 3, 1) := by decide +kernel
theorem dL_law_1162 : decode cL_law 1162 = .ok (.iconst 0, 1) := by decide +kernel
theorem dL_law_1163 : decode cL_law 1163 = .ok (.laload, 1) := by decide +kernel
theorem dL_law_1164 : decode cL_law 1164 = .ok (.iload 6, 2) := by decide +kernel
theorem dL_law_1166 : decode cL_law 1166 = .ok (.i2l, 1) := by decide +kernel
theorem dL_law_1167 : decode cL_law 1167 = .ok (.lcmp, 1) := by decide +kernel
theorem dL_law_1168 : decode cL_law 1168 = .ok (.ifCond .eq 5, 3) := by decide +kernel
theorem dL_law_1171 : decode cL_law 1171 = .ok (.iconst 0, 1) := by decide +kernel
theorem dL_law_1172 : decode cL_law 1172 = .ok (.ireturn, 1) := by decide +kernel
theorem dL_law_1173 : decode cL_law 1173 = .ok (.goto 168, 3) := by decide +kernel
theorem dL_law_1176 : decode cL_law 1176 = .ok (.aload_n 1, 1) := by decide +kernel
theorem dL_law_1177 : decode cL_law 1177 = .ok (.aload_n 0, 1) := by decide +kernel
theorem dL_law_1178 : decode cL_law 1178 = .ok (.iload 4, 2) := by decide +kernel
theorem dL_law_1180 : decode cL_law 1180 = .ok (.iconst 1, 1) := by decide +kernel
theorem dL_law_1181 : decode cL_law 1181 = .ok (.iadd, 1) := by decide +kernel
theorem dL_law_1182 : decode cL_law 1182 = .ok (.iaload, 1) := by decide +kernel
theorem dL_law_1183 : decode cL_law 1183 = .ok (.aload_n 0, 1) := by decide +kernel
theorem dL_law_1184 : decode cL_law 1184 = .ok (.iload 4, 2) := by decide +kernel
theorem dL_law_1186 : decode cL_law 1186 = .ok (.iconst 2, 1) := by decide +kernel
theorem dL_law_1187 : decode cL_law 1187 = .ok (.iadd, 1) := by decide +kernel
theorem dL_law_1188 : decode cL_law 1188 = .ok (.iaload, 1) := by decide +kernel
theorem dL_law_1189 : decode cL_law 1189 = .ok (.aload_n 3, 1) := by decide +kernel
theorem dL_law_1190 : decode cL_law 1190 = .ok (.invokestatic 154, 3) := by decide +kernel
theorem dL_law_1193 : decode cL_law 1193 = .ok (.istore 5, 2) := by decide +kernel
theorem dL_law_1195 : decode cL_law 1195 = .ok (.aload_n 2, 1) := by decide +kernel
theorem dL_law_1196 : decode cL_law 1196 = .ok (.aload_n 0, 1) := by decide +kernel
theorem dL_law_1197 : decode cL_law 1197 = .ok (.iload 4, 2) := by decide +kernel
theorem dL_law_1199 : decode cL_law 1199 = .ok (.iconst 1, 1) := by decide +kernel
theorem dL_law_1200 : decode cL_law 1200 = .ok (.iadd, 1) := by decide +kernel
theorem dL_law_1201 : decode cL_law 1201 = .ok (.iaload, 1) := by decide +kernel
theorem dL_law_1202 : decode cL_law 1202 = .ok (.aload_n 0, 1) := by decide +kernel
theorem dL_law_1203 : decode cL_law 1203 = .ok (.iload 4, 2) := by decide +kernel
theorem dL_law_1205 : decode cL_law 1205 = .ok (.iconst 2, 1) := by decide +kernel
theorem dL_law_1206 : decode cL_law 1206 = .ok (.iadd, 1) := by decide +kernel
theorem dL_law_1207 : decode cL_law 1207 = .ok (.iaload, 1) := by decide +kernel
theorem dL_law_1208 : decode cL_law 1208 = .ok (.invokevirtual 156, 3) := by decide +kernel
theorem dL_law_1211 : decode cL_law 1211 = .ok (.istore 6, 2) := by decide +kernel
theorem dL_law_1213 : decode cL_law 1213 = .ok (.aload_n 2, 1) := by decide +kernel
theorem dL_law_1214 : decode cL_law 1214 = .ok (.invokevirtual 85, 3) := by decide +kernel
theorem dL_law_1217 : decode cL_law 1217 = .ok (.iload 5, 2) := by decide +kernel
theorem dL_law_1219 : decode cL_law 1219 = .ok (.if_icmp .eq 5, 3) := by decide +kernel
theorem dL_law_1222 : decode cL_law 1222 = .ok (.iconst 0, 1) := by decide +kernel
theorem dL_law_1223 : decode cL_law 1223 = .ok (.ireturn, 1) := by decide +kernel
theorem dL_law_1224 : decode cL_law 1224 = .ok (.iload 5, 2) := by decide +kernel
theorem dL_law_1226 : decode cL_law 1226 = .ok (.ifCond .ne 15, 3) := by decide +kernel
theorem dL_law_1229 : decode cL_law 1229 = .ok (.aload_n 3, 1) := by decide +kernel
theorem dL_law_1230 : decode cL_law 1230 = .ok (.iconst 0, 1) := by decide +kernel
theorem dL_law_1231 : decode cL_law 1231 = .ok (.laload, 1) := by decide +kernel
theorem dL_law_1232 : decode cL_law 1232 = .ok (.iload 6, 2) := by decide +kernel
theorem dL_law_1234 : decode cL_law 1234 = .ok (.i2l, 1) := by decide +kernel
theorem dL_law_1235 : decode cL_law 1235 = .ok (.lcmp, 1) := by decide +kernel
theorem dL_law_1236 : decode cL_law 1236 = .ok (.ifCond .eq 5, 3) := by decide +kernel
theorem dL_law_1239 : decode cL_law 1239 = .ok (.iconst 0, 1) := by decide +kernel
theorem dL_law_1240 : decode cL_law 1240 = .ok (.ireturn, 1) := by decide +kernel
theorem dL_law_1241 : decode cL_law 1241 = .ok (.goto 100, 3) := by decide +kernel
theorem dL_law_1244 : decode cL_law 1244 = .ok (.aload_n 1, 1) := by decide +kernel
theorem dL_law_1245 : decode cL_law 1245 = .ok (.aload_n 0, 1) := by decide +kernel
theorem dL_law_1246 : decode cL_law 1246 = .ok (.iload 4, 2) := by decide +kernel
theorem dL_law_1248 : decode cL_law 1248 = .ok (.iconst 1, 1) := by decide +kernel
theorem dL_law_1249 : decode cL_law 1249 = .ok (.iadd, 1) := by decide +kernel
theorem dL_law_1250 : decode cL_law 1250 = .ok (.iaload, 1) := by decide +kernel
theorem dL_law_1251 : decode cL_law 1251 = .ok (.aload_n 3, 1) := by decide +kernel
theorem dL_law_1252 : decode cL_law 1252 = .ok (.invokestatic 157, 3) := by decide +kernel
theorem dL_law_1255 : decode cL_law 1255 = .ok (.istore 5, 2) := by decide +kernel
theorem dL_law_1257 : decode cL_law 1257 = .ok (.aload_n 2, 1) := by decide +kernel
theorem dL_law_1258 : decode cL_law 1258 = .ok (.aload_n 0, 1) := by decide +kernel
theorem dL_law_1259 : decode cL_law 1259 = .ok (.iload 4, 2) := by decide +kernel
theorem dL_law_1261 : decode cL_law 1261 = .ok (.iconst 1, 1) := by decide +kernel
theorem dL_law_1262 : decode cL_law 1262 = .ok (.iadd, 1) := by decide +kernel
theorem dL_law_1263 : decode cL_law 1263 = .ok (.iaload, 1) := by decide +kernel
theorem dL_law_1264 : decode cL_law 1264 = .ok (.invokevirtual 159, 3) := by decide +kernel
theorem dL_law_1267 : decode cL_law 1267 = .ok (.istore 6, 2) := by decide +kernel
theorem dL_law_1269 : decode cL_law 1269 = .ok (.aload_n 2, 1) := by decide +kernel
theorem dL_law_1270 : decode cL_law 1270 = .ok (.invokevirtual 85, 3) := by decide +kernel
theorem dL_law_1273 : decode cL_law 1273 = .ok (.iload 5, 2) := by decide +kernel
theorem dL_law_1275 : decode cL_law 1275 = .ok (.if_icmp .eq 5, 3) := by decide +kernel
theorem dL_law_1278 : decode cL_law 1278 = .ok (.iconst 0, 1) := by decide +kernel
theorem dL_law_1279 : decode cL_law 1279 = .ok (.ireturn, 1) := by decide +kernel
theorem dL_law_1280 : decode cL_law 1280 = .ok (.iload 5, 2) := by decide +kernel
theorem dL_law_1282 : decode cL_law 1282 = .ok (.ifCond .ne 15, 3) := by decide +kernel
theorem dL_law_1285 : decode cL_law 1285 = .ok (.aload_n 3, 1) := by decide +kernel
theorem dL_law_1286 : decode cL_law 1286 = .ok (.iconst 0, 1) := by decide +kernel
theorem dL_law_1287 : decode cL_law 1287 = .ok (.laload, 1) := by decide +kernel
theorem dL_law_1288 : decode cL_law 1288 = .ok (.iload 6, 2) := by decide +kernel
theorem dL_law_1290 : decode cL_law 1290 = .ok (.i2l, 1) := by decide +kernel
theorem dL_law_1291 : decode cL_law 1291 = .ok (.lcmp, 1) := by decide +kernel
theorem dL_law_1292 : decode cL_law 1292 = .ok (.ifCond .eq 5, 3) := by decide +kernel
theorem dL_law_1295 : decode cL_law 1295 = .ok (.iconst 0, 1) := by decide +kernel
theorem dL_law_1296 : decode cL_law 1296 = .ok (.ireturn, 1) := by decide +kernel
theorem dL_law_1297 : decode cL_law 1297 = .ok (.goto 44, 3) := by decide +kernel
theorem dL_law_1300 : decode cL_law 1300 = .ok (.aload_n 1, 1) := by decide +kernel
theorem dL_law_1301 : decode cL_law 1301 = .ok (.invokevirtual 160, 3) := by decide +kernel
theorem dL_law_1304 : decode cL_law 1304 = .ok (.dstore 5, 2) := by decide +kernel
theorem dL_law_1306 : decode cL_law 1306 = .ok (.aload_n 2, 1) := by decide +kernel
theorem dL_law_1307 : decode cL_law 1307 = .ok (.invokevirtual 164, 3) := by decide +kernel
theorem dL_law_1310 : decode cL_law 1310 = .ok (.dstore 7, 2) := by decide +kernel
theorem dL_law_1312 : decode cL_law 1312 = .ok (.dload 5, 2) := by decide +kernel
theorem dL_law_1314 : decode cL_law 1314 = .ok (.dload 7, 2) := by decide +kernel
theorem dL_law_1316 : decode cL_law 1316 = .ok (.dcmp .l, 1) := by decide +kernel
theorem dL_law_1317 : decode cL_law 1317 = .ok (.ifCond .eq 21, 3) := by decide +kernel
theorem dL_law_1320 : decode cL_law 1320 = .ok (.dload 5, 2) := by decide +kernel
theorem dL_law_1322 : decode cL_law 1322 = .ok (.dload 5, 2) := by decide +kernel
theorem dL_law_1324 : decode cL_law 1324 = .ok (.dcmp .l, 1) := by decide +kernel
theorem dL_law_1325 : decode cL_law 1325 = .ok (.ifCond .eq 11, 3) := by decide +kernel
theorem dL_law_1328 : decode cL_law 1328 = .ok (.dload 7, 2) := by decide +kernel
theorem dL_law_1330 : decode cL_law 1330 = .ok (.dload 7, 2) := by decide +kernel
theorem dL_law_1332 : decode cL_law 1332 = .ok (.dcmp .l, 1) := by decide +kernel
theorem dL_law_1333 : decode cL_law 1333 = .ok (.ifCond .ne 5, 3) := by decide +kernel
theorem dL_law_1336 : decode cL_law 1336 = .ok (.iconst 0, 1) := by decide +kernel
theorem dL_law_1337 : decode cL_law 1337 = .ok (.ireturn, 1) := by decide +kernel
theorem dL_law_1338 : decode cL_law 1338 = .ok (.goto 3, 3) := by decide +kernel
theorem dL_law_1341 : decode cL_law 1341 = .ok (.iinc 4 3, 3) := by decide +kernel
theorem dL_law_1344 : decode cL_law 1344 = .ok (.goto (-1321), 3) := by decide +kernel
theorem dL_law_1347 : decode cL_law 1347 = .ok (.iconst 1, 1) := by decide +kernel
theorem dL_law_1348 : decode cL_law 1348 = .ok (.ireturn, 1) := by decide +kernel
